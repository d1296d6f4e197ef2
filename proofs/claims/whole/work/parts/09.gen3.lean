/-- VotingFloor.leads(II)I -/
noncomputable def v_X11_leads (p0 : Int32) (p1 : Int32) (μ : Mm) : Int32 := (let μ2 : Mm := (e_X3_note 1 μ); (v_X11_committed (v_X1_lead 1 p0 p1 μ2)))
noncomputable def e_X11_leads (p0 : Int32) (p1 : Int32) (μ : Mm) : Mm := (let μ2 : Mm := (e_X3_note 1 μ); (let μ4 : Mm := (e_X1_lead 1 p0 p1 μ2); (let μ5 : Mm := (e_X11_committed (v_X1_lead 1 p0 p1 μ2) μ4); μ5)))
def p_X11_leads (p0 : Int32) (p1 : Int32)  (μ : Mm) : Prop := (p_X3_note 1 μ) ∧ (∀ μ2 : Mm, μ2 = (e_X3_note 1 μ) → p_X1_lead 1 p0 p1 μ2)
set_option maxRecDepth 20000 in
set_option maxHeartbeats 4000000 in
theorem con_X11_leads {E : Ex} {Q : Option Value → Mm → Prop} {p0 : Int32} {p1 : Int32} {μ : Mm} (t : p_X11_leads p0 p1  μ) (k : Q (some (.int (v_X11_leads p0 p1 μ))) (e_X11_leads p0 p1 μ)) : Con E 4 mX11_leads [rf E 0, .int p0, .int p1] μ Q := by
  refine Con_J (by decide +kernel) (Nat.le_of_ble_eq_true rfl) (fun G => ?_)
  unfold v_X11_leads e_X11_leads at k
  unfold p_X11_leads at t
  refine J_sub (ls' := [(0, rf E 0), (1, .int p0), (2, .int p1)]) [0, 1, 2] rfl ?_
  refine J_aload_n (dk okX11_leads 0 rfl) 0 rfl rfl ?_
  refine J_getR (dk okX11_leads 1 rfl) kfX11_46 ds_0 rfl ?_
  refine J_aload_n (dk okX11_leads 2 rfl) 0 rfl rfl ?_
  refine J_getR (dk okX11_leads 3 rfl) kfX11_12 ds_0 rfl ?_
  obtain ⟨s1, t⟩ := t
  refine J_callVv (As := [rf E 1]) (dk okX11_leads 4 rfl) ds_29 rfl vkX3_note lkX11_185 rfl rfl (Nat.le_of_ble_eq_true rfl) (by decide) (con_X3_note FloorAt_1 s1 ⟨rfl, ?_⟩)
  refine J_nm (fun μ2 eμ2 => ?_)
  have t := t μ2 eμ2
  refine J_aload_n (dk okX11_leads 5 rfl) 0 rfl rfl ?_
  refine J_aload_n (dk okX11_leads 6 rfl) 0 rfl rfl ?_
  refine J_getR (dk okX11_leads 7 rfl) kfX11_12 ds_0 rfl ?_
  refine J_iload_n (dk okX11_leads 8 rfl) 1 rfl rfl ?_
  refine J_iload_n (dk okX11_leads 9 rfl) 2 rfl rfl ?_
  have s3 := t
  refine J_callVi (As := [.int p0, .int p1]) (dk okX11_leads 10 rfl) ds_1 rfl vkX1_lead lkX11_211 rfl rfl (Nat.le_of_ble_eq_true rfl) (by decide) (con_X1_lead FloorAt_1 s3 ⟨_, rfl, ?_⟩)
  refine J_nm (fun μ4 eμ4 => ?_)
  refine J_callVi (As := [.int (v_X1_lead 1 p0 p1 μ2)]) (dk okX11_leads 11 rfl) ds_0 rfl vkX11_committed lkX11_214 rfl rfl (Nat.le_of_ble_eq_true rfl) (by decide) (con_X11_committed  ⟨_, rfl, ?_⟩)
  refine J_nm (fun μ5 eμ5 => ?_)
  subst eμ5 eμ4 eμ2
  exact J_iret (dk okX11_leads 12 rfl) rfl k
/-- VotingFloor.noon(I)I -/
noncomputable def v_X11_noon (p0 : Int32) (μ : Mm) : Int32 := (let μ2 : Mm := (e_X3_note 1 μ); (v_X11_committed (v_X1_setNoon 1 p0 μ2)))
noncomputable def e_X11_noon (p0 : Int32) (μ : Mm) : Mm := (let μ2 : Mm := (e_X3_note 1 μ); (let μ3 : Mm := (e_X1_setNoon 1 p0 μ2); (let μ4 : Mm := (e_X11_committed (v_X1_setNoon 1 p0 μ2) μ3); μ4)))
def p_X11_noon (p0 : Int32)  (μ : Mm) : Prop := p_X3_note 1 μ
set_option maxRecDepth 20000 in
set_option maxHeartbeats 4000000 in
theorem con_X11_noon {E : Ex} {Q : Option Value → Mm → Prop} {p0 : Int32} {μ : Mm} (t : p_X11_noon p0  μ) (k : Q (some (.int (v_X11_noon p0 μ))) (e_X11_noon p0 μ)) : Con E 4 mX11_noon [rf E 0, .int p0] μ Q := by
  refine Con_J (by decide +kernel) (Nat.le_of_ble_eq_true rfl) (fun G => ?_)
  unfold v_X11_noon e_X11_noon at k
  unfold p_X11_noon at t
  refine J_sub (ls' := [(0, rf E 0), (1, .int p0)]) [0, 1] rfl ?_
  refine J_aload_n (dk okX11_noon 0 rfl) 0 rfl rfl ?_
  refine J_getR (dk okX11_noon 1 rfl) kfX11_46 ds_0 rfl ?_
  refine J_aload_n (dk okX11_noon 2 rfl) 0 rfl rfl ?_
  refine J_getR (dk okX11_noon 3 rfl) kfX11_12 ds_0 rfl ?_
  have s1 := t
  refine J_callVv (As := [rf E 1]) (dk okX11_noon 4 rfl) ds_29 rfl vkX3_note lkX11_185 rfl rfl (Nat.le_of_ble_eq_true rfl) (by decide) (con_X3_note FloorAt_1 s1 ⟨rfl, ?_⟩)
  refine J_nm (fun μ2 eμ2 => ?_)
  refine J_aload_n (dk okX11_noon 5 rfl) 0 rfl rfl ?_
  refine J_aload_n (dk okX11_noon 6 rfl) 0 rfl rfl ?_
  refine J_getR (dk okX11_noon 7 rfl) kfX11_12 ds_0 rfl ?_
  refine J_iload_n (dk okX11_noon 8 rfl) 1 rfl rfl ?_
  refine J_callVi (As := [.int p0]) (dk okX11_noon 9 rfl) ds_1 rfl vkX1_setNoon lkX11_226 rfl rfl (Nat.le_of_ble_eq_true rfl) (by decide) (con_X1_setNoon FloorAt_1 ⟨_, rfl, ?_⟩)
  refine J_nm (fun μ3 eμ3 => ?_)
  refine J_callVi (As := [.int (v_X1_setNoon 1 p0 μ2)]) (dk okX11_noon 10 rfl) ds_0 rfl vkX11_committed lkX11_214 rfl rfl (Nat.le_of_ble_eq_true rfl) (by decide) (con_X11_committed  ⟨_, rfl, ?_⟩)
  refine J_nm (fun μ4 eμ4 => ?_)
  subst eμ4 eμ3 eμ2
  exact J_iret (dk okX11_noon 11 rfl) rfl k
noncomputable def bd_X11_people_41  (x1 : Int32) (x2 : Int32) (x3 : Int32) (μ : Mm) : (Int32 × Int32 × Int32 × Mm) ⊕ (Int32 × Int32 × Mm) := (if x2 ≤ x3 then .inr (x1, x2, μ) else (let μ5 : Mm := (e_X1_join 1 (v_X9_digit (x3 * 4) μ) (v_X9_signed ((x3 * 4) + 1) 45 μ) μ); .inl (x1, x2, (x3 + 1), μ5)))
def sd_X11_people_41   (x1 : Int32) (x2 : Int32) (x3 : Int32) (μ : Mm) : Prop := (¬ (x2 ≤ x3) → (p_X9_digit (x3 * 4) μ) ∧ (p_X9_signed ((x3 * 4) + 1) 45 μ) ∧ p_X1_join 1 (v_X9_digit (x3 * 4) μ) (v_X9_signed ((x3 * 4) + 1) 45 μ) μ)
set_option maxRecDepth 20000 in
set_option maxHeartbeats 4000000 in
theorem lw_X11_people_41 {E : Ex} {G : Gx} {Q : Option Value → Mm → Prop} {x1 : Int32} {x2 : Int32} {x3 : Int32} {μ : Mm}  (p : whP (fun s : Int32 × Int32 × Int32 × Mm => bd_X11_people_41  s.1 s.2.1 s.2.2.1 s.2.2.2) (fun s : Int32 × Int32 × Int32 × Mm => sd_X11_people_41   s.1 s.2.1 s.2.2.1 s.2.2.2) FU (x1, x2, x3, μ)) (k : ∀ r : Int32 × Int32 × Mm, r = whl (fun s : Int32 × Int32 × Int32 × Mm => bd_X11_people_41  s.1 s.2.1 s.2.2.1 s.2.2.2) (fun s : Int32 × Int32 × Int32 × Mm => (0, 0, s.2.2.2)) FU (x1, x2, x3, μ) → J E G 4 mX11_people Q 86 [(0, rf E 0), (1, .int (r.1)), (2, .int (r.2.1))] [] (r.2.2)) : J E G 4 mX11_people Q 41 [(0, rf E 0), (1, .int x1), (2, .int x2), (3, .int x3)] [] μ := by
  refine J_whl (f := (fun s : Int32 × Int32 × Int32 × Mm => bd_X11_people_41  s.1 s.2.1 s.2.2.1 s.2.2.2)) (dd := (fun s : Int32 × Int32 × Int32 × Mm => (0, 0, s.2.2.2))) (sd := (fun s : Int32 × Int32 × Int32 × Mm => sd_X11_people_41   s.1 s.2.1 s.2.2.1 s.2.2.2)) (P := fun s : Int32 × Int32 × Int32 × Mm => J E G 4 mX11_people Q 41 [(0, rf E 0), (1, .int (s.1)), (2, .int (s.2.1)), (3, .int (s.2.2.1))] [] (s.2.2.2)) (R := fun r : Int32 × Int32 × Mm => J E G 4 mX11_people Q 86 [(0, rf E 0), (1, .int (r.1)), (2, .int (r.2.1))] [] (r.2.2)) ?_ FU (x1, x2, x3, μ) p (k _ rfl)
  clear p k
  rintro ⟨x1, x2, x3, μ⟩ t k1 k2
  dsimp only [sd_X11_people_41] at t
  have kb : ∀ (y1 : Int32) (y2 : Int32) (y3 : Int32) (μ9 : Mm), bd_X11_people_41  x1 x2 x3 μ = .inl (y1, y2, y3, μ9) → J E G 4 mX11_people Q 41 [(0, rf E 0), (1, .int y1), (2, .int y2), (3, .int y3)] [] μ9 := fun y1 y2 y3 μ9 h => k1 (y1, y2, y3, μ9) h
  have kx : ∀ (y1 : Int32) (y2 : Int32) (μ9 : Mm), bd_X11_people_41  x1 x2 x3 μ = .inr (y1, y2, μ9) → J E G 4 mX11_people Q 86 [(0, rf E 0), (1, .int y1), (2, .int y2)] [] μ9 := fun y1 y2 μ9 h => k2 (y1, y2, μ9) h
  clear k1 k2
  refine J_iload_n (dk okX11_people 24 rfl) 3 rfl rfl ?_
  refine J_iload_n (dk okX11_people 25 rfl) 2 rfl rfl ?_
  refine J_icmp_ge (tgt := 86) (dk okX11_people 26 rfl) (by decide) (fun h1 => ?_) (fun h1 => ?_)
  · exact J_sub [0, 1, 2] rfl (kx x1 x2 μ (by unfold bd_X11_people_41; first | (simp only [if_pos h1]; done) | (simp only [if_pos h1]; rfl) | rfl))
  · have t := t h1
    refine J_iload_n (dk okX11_people 27 rfl) 3 rfl rfl ?_
    refine J_iconst (v := 4) (dk okX11_people 28 rfl) (by decide) ?_
    refine J_imul (dk okX11_people 29 rfl) ?_
    refine J_istore (ls' := [(4, _), (0, _), (1, _), (2, _), (3, _)]) (dk okX11_people 30 rfl) (by decide) rfl ?_
    refine J_aload_n (dk okX11_people 31 rfl) 1 rfl rfl ?_
    refine J_getR (dk okX11_people 32 rfl) kfX11_12 ds_0 rfl ?_
    refine J_aload_n (dk okX11_people 33 rfl) 1 rfl rfl ?_
    refine J_getR (dk okX11_people 34 rfl) kfX11_32 ds_0 rfl ?_
    refine J_iload (dk okX11_people 35 rfl) 0 rfl ?_
    obtain ⟨s2, t⟩ := t
    refine J_callVi (As := [.int (x3 * 4)]) (dk okX11_people 36 rfl) ds_25 rfl vkX9_digit lkX11_113 rfl rfl (Nat.le_of_ble_eq_true rfl) (by decide) (con_X9_digit s2 ⟨_, rfl, ?_⟩)
    refine J_aload_n (dk okX11_people 37 rfl) 1 rfl rfl ?_
    refine J_getR (dk okX11_people 38 rfl) kfX11_32 ds_0 rfl ?_
    refine J_iload (dk okX11_people 39 rfl) 0 rfl ?_
    refine J_iconst (v := 1) (dk okX11_people 40 rfl) (by decide) ?_
    refine J_iadd (dk okX11_people 41 rfl) ?_
    refine J_bipush (v := 45) (dk okX11_people 42 rfl) (by decide) ?_
    obtain ⟨s3, t⟩ := t
    refine J_callVi (As := [.int ((x3 * 4) + 1), .int 45]) (dk okX11_people 43 rfl) ds_25 rfl vkX9_signed lkX11_116 rfl rfl (Nat.le_of_ble_eq_true rfl) (by decide) (con_X9_signed s3 ⟨_, rfl, ?_⟩)
    have s4 := t
    refine J_callVv (As := [.int (v_X9_digit (x3 * 4) μ), .int (v_X9_signed ((x3 * 4) + 1) 45 μ)]) (dk okX11_people 44 rfl) ds_1 rfl vkX1_join lkX11_120 rfl rfl (Nat.le_of_ble_eq_true rfl) (by decide) (con_X1_join FloorAt_1 s4 ⟨rfl, ?_⟩)
    refine J_nm (fun μ5 eμ5 => ?_)
    refine J_iinc (v := (x3 + 1)) (ls' := [(3, _), (4, _), (0, _), (1, _), (2, _)]) (dk okX11_people 45 rfl) 4 rfl rfl (by decide) rfl ?_
    refine J_goto (tgt := 41) (dk okX11_people 46 rfl) (by decide) ?_
    exact J_sub [2, 3, 4, 0] rfl (kb x1 x2 (x3 + 1) μ5 (by subst eμ5; unfold bd_X11_people_41; first | (simp only [if_neg h1]; done) | (simp only [if_neg h1]; rfl) | rfl))
/-- VotingFloor.people()I -/
noncomputable def v_X11_people  (μ : Mm) : Int32 := (if (if (v_X9_badLineSign (7 - (μ.1 1 0)) μ) = (-1) then (if (((μ.1 25 1) + 1) / 4) ≤ 0 then (v_X9_badLineSign (7 - (μ.1 1 0)) μ) else ((whl (fun s : Int32 × Int32 × Int32 × Mm => bd_X11_people_41  s.1 s.2.1 s.2.2.1 s.2.2.2) (fun s : Int32 × Int32 × Int32 × Mm => (0, 0, s.2.2.2)) FU ((v_X9_badLineSign (7 - (μ.1 1 0)) μ), (((μ.1 25 1) + 1) / 4), 0, μ)).1) : Int32) else (v_X9_badLineSign (7 - (μ.1 1 0)) μ) : Int32) = (-1) then (if (v_X9_badLineSign (7 - (μ.1 1 0)) μ) = (-1) then (if (((μ.1 25 1) + 1) / 4) ≤ 0 then (((μ.1 25 1) + 1) / 4) else ((whl (fun s : Int32 × Int32 × Int32 × Mm => bd_X11_people_41  s.1 s.2.1 s.2.2.1 s.2.2.2) (fun s : Int32 × Int32 × Int32 × Mm => (0, 0, s.2.2.2)) FU ((v_X9_badLineSign (7 - (μ.1 1 0)) μ), (((μ.1 25 1) + 1) / 4), 0, μ)).2.1) : Int32) else (((μ.1 25 1) + 1) / 4) : Int32) else ((-1) - (if (v_X9_badLineSign (7 - (μ.1 1 0)) μ) = (-1) then (if (((μ.1 25 1) + 1) / 4) ≤ 0 then (v_X9_badLineSign (7 - (μ.1 1 0)) μ) else ((whl (fun s : Int32 × Int32 × Int32 × Mm => bd_X11_people_41  s.1 s.2.1 s.2.2.1 s.2.2.2) (fun s : Int32 × Int32 × Int32 × Mm => (0, 0, s.2.2.2)) FU ((v_X9_badLineSign (7 - (μ.1 1 0)) μ), (((μ.1 25 1) + 1) / 4), 0, μ)).1) : Int32) else (v_X9_badLineSign (7 - (μ.1 1 0)) μ) : Int32)) : Int32)
noncomputable def e_X11_people  (μ : Mm) : Mm := (let μ8 : Mm := (if (v_X9_badLineSign (7 - (μ.1 1 0)) μ) = (-1) then (if (((μ.1 25 1) + 1) / 4) ≤ 0 then μ else ((e_X3_loseAll  ((whl (fun s : Int32 × Int32 × Int32 × Mm => bd_X11_people_41  s.1 s.2.1 s.2.2.1 s.2.2.2) (fun s : Int32 × Int32 × Int32 × Mm => (0, 0, s.2.2.2)) FU ((v_X9_badLineSign (7 - (μ.1 1 0)) μ), (((μ.1 25 1) + 1) / 4), 0, μ)).2.2))) : Mm) else μ : Mm); (let μ9 : Mm := (e_X9_clear  μ8); μ9))
def p_X11_people   (μ : Mm) : Prop := (p_X9_badLineSign (7 - (μ.1 1 0)) μ) ∧ ((v_X9_badLineSign (7 - (μ.1 1 0)) μ) = (-1) → (¬ ((((μ.1 25 1) + 1) / 4) ≤ 0) → (whP (fun s : Int32 × Int32 × Int32 × Mm => bd_X11_people_41  s.1 s.2.1 s.2.2.1 s.2.2.2) (fun s : Int32 × Int32 × Int32 × Mm => sd_X11_people_41   s.1 s.2.1 s.2.2.1 s.2.2.2) FU ((v_X9_badLineSign (7 - (μ.1 1 0)) μ), (((μ.1 25 1) + 1) / 4), 0, μ)) ∧ (∀ r5 : Int32 × Int32 × Mm, r5 = whl (fun s : Int32 × Int32 × Int32 × Mm => bd_X11_people_41  s.1 s.2.1 s.2.2.1 s.2.2.2) (fun s : Int32 × Int32 × Int32 × Mm => (0, 0, s.2.2.2)) FU ((v_X9_badLineSign (7 - (μ.1 1 0)) μ), (((μ.1 25 1) + 1) / 4), 0, μ) → p_X3_loseAll (r5.2.2))))
set_option maxRecDepth 20000 in
set_option maxHeartbeats 4000000 in
theorem con_X11_people {E : Ex} {Q : Option Value → Mm → Prop} {μ : Mm} (t : p_X11_people   μ) (k : Q (some (.int (v_X11_people  μ))) (e_X11_people  μ)) : Con E 4 mX11_people [rf E 0] μ Q := by
  refine Con_J (by decide +kernel) (Nat.le_of_ble_eq_true rfl) (fun G => ?_)
  unfold v_X11_people e_X11_people at k
  unfold p_X11_people at t
  refine J_sub (ls' := [(0, rf E 0)]) [0] rfl ?_
  refine J_aload_n (dk okX11_people 0 rfl) 0 rfl rfl ?_
  refine J_getR (dk okX11_people 1 rfl) kfX11_32 ds_0 rfl ?_
  refine J_bipush (v := 7) (dk okX11_people 2 rfl) (by decide) ?_
  refine J_aload_n (dk okX11_people 3 rfl) 0 rfl rfl ?_
  refine J_getR (dk okX11_people 4 rfl) kfX11_12 ds_0 rfl ?_
  refine J_getI (dk okX11_people 5 rfl) kfX11_106 ds_1 rfl ?_
  refine J_isub (dk okX11_people 6 rfl) ?_
  obtain ⟨s1, t⟩ := t
  refine J_callVi (As := [.int (7 - (μ.1 1 0))]) (dk okX11_people 7 rfl) ds_25 rfl vkX9_badLineSign lkX11_109 rfl rfl (Nat.le_of_ble_eq_true rfl) (by decide) (con_X9_badLineSign s1 ⟨_, rfl, ?_⟩)
  refine J_istore_n (ls' := [(1, _), (0, _)]) (dk okX11_people 8 rfl) rfl (by decide) rfl ?_
  refine J_aload_n (dk okX11_people 9 rfl) 1 rfl rfl ?_
  refine J_getR (dk okX11_people 10 rfl) kfX11_32 ds_0 rfl ?_
  refine J_getI (dk okX11_people 11 rfl) kfX11_99 ds_25 rfl ?_
  refine J_iconst (v := 1) (dk okX11_people 12 rfl) (by decide) ?_
  refine J_iadd (dk okX11_people 13 rfl) ?_
  refine J_iconst (v := 4) (dk okX11_people 14 rfl) (by decide) ?_
  refine J_idiv (dk okX11_people 15 rfl) (by decide) ?_
  refine J_istore_n (ls' := [(2, _), (1, _), (0, _)]) (dk okX11_people 16 rfl) rfl (by decide) rfl ?_
  refine J_iload_n (dk okX11_people 17 rfl) 1 rfl rfl ?_
  refine J_iconst (v := (-1)) (dk okX11_people 18 rfl) (by decide) ?_
  have K12 : J E G 4 mX11_people Q 93 [(0, rf E 0), (1, .int (if (v_X9_badLineSign (7 - (μ.1 1 0)) μ) = (-1) then (if (((μ.1 25 1) + 1) / 4) ≤ 0 then (v_X9_badLineSign (7 - (μ.1 1 0)) μ) else ((whl (fun s : Int32 × Int32 × Int32 × Mm => bd_X11_people_41  s.1 s.2.1 s.2.2.1 s.2.2.2) (fun s : Int32 × Int32 × Int32 × Mm => (0, 0, s.2.2.2)) FU ((v_X9_badLineSign (7 - (μ.1 1 0)) μ), (((μ.1 25 1) + 1) / 4), 0, μ)).1) : Int32) else (v_X9_badLineSign (7 - (μ.1 1 0)) μ) : Int32)), (2, .int (if (v_X9_badLineSign (7 - (μ.1 1 0)) μ) = (-1) then (if (((μ.1 25 1) + 1) / 4) ≤ 0 then (((μ.1 25 1) + 1) / 4) else ((whl (fun s : Int32 × Int32 × Int32 × Mm => bd_X11_people_41  s.1 s.2.1 s.2.2.1 s.2.2.2) (fun s : Int32 × Int32 × Int32 × Mm => (0, 0, s.2.2.2)) FU ((v_X9_badLineSign (7 - (μ.1 1 0)) μ), (((μ.1 25 1) + 1) / 4), 0, μ)).2.1) : Int32) else (((μ.1 25 1) + 1) / 4) : Int32))] [] (if (v_X9_badLineSign (7 - (μ.1 1 0)) μ) = (-1) then (if (((μ.1 25 1) + 1) / 4) ≤ 0 then μ else ((e_X3_loseAll  ((whl (fun s : Int32 × Int32 × Int32 × Mm => bd_X11_people_41  s.1 s.2.1 s.2.2.1 s.2.2.2) (fun s : Int32 × Int32 × Int32 × Mm => (0, 0, s.2.2.2)) FU ((v_X9_badLineSign (7 - (μ.1 1 0)) μ), (((μ.1 25 1) + 1) / 4), 0, μ)).2.2))) : Mm) else μ : Mm) := by
    refine J_nm (fun μ8 eμ8 => ?_)
    refine J_aload_n (dk okX11_people 50 rfl) 0 rfl rfl ?_
    refine J_getR (dk okX11_people 51 rfl) kfX11_32 ds_0 rfl ?_
    refine J_callVv (As := []) (dk okX11_people 52 rfl) ds_25 rfl vkX9_clear lkX11_127 rfl rfl (Nat.le_of_ble_eq_true rfl) (by decide) (con_X9_clear  ⟨rfl, ?_⟩)
    refine J_nm (fun μ9 eμ9 => ?_)
    refine J_iload_n (dk okX11_people 53 rfl) 1 rfl rfl ?_
    refine J_iconst (v := (-1)) (dk okX11_people 54 rfl) (by decide) ?_
    have K11 : J E G 4 mX11_people Q 112 [] [.int (if (if (v_X9_badLineSign (7 - (μ.1 1 0)) μ) = (-1) then (if (((μ.1 25 1) + 1) / 4) ≤ 0 then (v_X9_badLineSign (7 - (μ.1 1 0)) μ) else ((whl (fun s : Int32 × Int32 × Int32 × Mm => bd_X11_people_41  s.1 s.2.1 s.2.2.1 s.2.2.2) (fun s : Int32 × Int32 × Int32 × Mm => (0, 0, s.2.2.2)) FU ((v_X9_badLineSign (7 - (μ.1 1 0)) μ), (((μ.1 25 1) + 1) / 4), 0, μ)).1) : Int32) else (v_X9_badLineSign (7 - (μ.1 1 0)) μ) : Int32) = (-1) then (if (v_X9_badLineSign (7 - (μ.1 1 0)) μ) = (-1) then (if (((μ.1 25 1) + 1) / 4) ≤ 0 then (((μ.1 25 1) + 1) / 4) else ((whl (fun s : Int32 × Int32 × Int32 × Mm => bd_X11_people_41  s.1 s.2.1 s.2.2.1 s.2.2.2) (fun s : Int32 × Int32 × Int32 × Mm => (0, 0, s.2.2.2)) FU ((v_X9_badLineSign (7 - (μ.1 1 0)) μ), (((μ.1 25 1) + 1) / 4), 0, μ)).2.1) : Int32) else (((μ.1 25 1) + 1) / 4) : Int32) else ((-1) - (if (v_X9_badLineSign (7 - (μ.1 1 0)) μ) = (-1) then (if (((μ.1 25 1) + 1) / 4) ≤ 0 then (v_X9_badLineSign (7 - (μ.1 1 0)) μ) else ((whl (fun s : Int32 × Int32 × Int32 × Mm => bd_X11_people_41  s.1 s.2.1 s.2.2.1 s.2.2.2) (fun s : Int32 × Int32 × Int32 × Mm => (0, 0, s.2.2.2)) FU ((v_X9_badLineSign (7 - (μ.1 1 0)) μ), (((μ.1 25 1) + 1) / 4), 0, μ)).1) : Int32) else (v_X9_badLineSign (7 - (μ.1 1 0)) μ) : Int32)) : Int32)] μ9 := by
      subst eμ9 eμ8
      exact J_iret (dk okX11_people 61 rfl) rfl k
    refine J_icmp_ne (tgt := 109) (dk okX11_people 55 rfl) (by decide) (fun h10 => ?_) (fun h10 => ?_)
    · refine J_iconst (v := (-1)) (dk okX11_people 58 rfl) (by decide) ?_
      refine J_iload_n (dk okX11_people 59 rfl) 1 rfl rfl ?_
      refine J_isub (dk okX11_people 60 rfl) ?_
      refine J_sub (ls' := []) [] rfl ?_
      (try simp only [if_neg h10] at K11 ⊢); exact K11
    · refine J_iload_n (dk okX11_people 56 rfl) 2 rfl rfl ?_
      refine J_goto (tgt := 112) (dk okX11_people 57 rfl) (by decide) ?_
      refine J_sub (ls' := []) [] rfl ?_
      (try simp only [if_pos h10] at K11 ⊢); exact K11
  refine J_icmp_ne (tgt := 93) (dk okX11_people 19 rfl) (by decide) (fun h2 => ?_) (fun h2 => ?_)
  · refine J_sub (ls' := [(0, _), (1, _), (2, _)]) [2, 1, 0] rfl ?_
    (try simp only [if_neg h2] at K12 ⊢); exact K12
  · have t := t h2
    refine J_iload_n (dk okX11_people 20 rfl) 0 rfl rfl ?_
    refine J_if_le (tgt := 93) (dk okX11_people 21 rfl) (by decide) (fun h3 => ?_) (fun h3 => ?_)
    · refine J_sub (ls' := [(0, _), (1, _), (2, _)]) [2, 1, 0] rfl ?_
      (try simp only [if_pos h2, if_pos h3] at K12 ⊢); exact K12
    · have t := t h3
      refine J_iconst (v := 0) (dk okX11_people 22 rfl) (by decide) ?_
      refine J_istore_n (ls' := [(3, _), (2, _), (1, _), (0, _)]) (dk okX11_people 23 rfl) rfl (by decide) rfl ?_
      obtain ⟨s4, t⟩ := t
      refine J_sub (ls' := [(0, _), (1, _), (2, _), (3, _)]) [3, 2, 1, 0] rfl ?_
      refine lw_X11_people_41  s4 (fun r5 er5 => ?_)
      have t := t r5 er5
      refine J_aload_n (dk okX11_people 47 rfl) 0 rfl rfl ?_
      refine J_getR (dk okX11_people 48 rfl) kfX11_46 ds_0 rfl ?_
      have s6 := t
      refine J_callVv (As := []) (dk okX11_people 49 rfl) ds_29 rfl vkX3_loseAll lkX11_124 rfl rfl (Nat.le_of_ble_eq_true rfl) (by decide) (con_X3_loseAll s6 ⟨rfl, ?_⟩)
      refine J_nm (fun μ7 eμ7 => ?_)
      subst eμ7 er5
      refine J_sub (ls' := [(0, _), (1, _), (2, _)]) [0, 1, 2] rfl ?_
      (try simp only [if_pos h2, if_neg h3] at K12 ⊢); exact K12
/-- VotingFloor.sacks(II)I -/
noncomputable def v_X11_sacks (p0 : Int32) (p1 : Int32) (μ : Mm) : Int32 := (let μ2 : Mm := (e_X3_note 1 μ); (v_X11_committed (v_X1_burden 1 p0 p1 μ2)))
noncomputable def e_X11_sacks (p0 : Int32) (p1 : Int32) (μ : Mm) : Mm := (let μ2 : Mm := (e_X3_note 1 μ); (let μ4 : Mm := (e_X1_burden 1 p0 p1 μ2); (let μ5 : Mm := (e_X11_committed (v_X1_burden 1 p0 p1 μ2) μ4); μ5)))
def p_X11_sacks (p0 : Int32) (p1 : Int32)  (μ : Mm) : Prop := (p_X3_note 1 μ) ∧ (∀ μ2 : Mm, μ2 = (e_X3_note 1 μ) → p_X1_burden 1 p0 p1 μ2)
set_option maxRecDepth 20000 in
set_option maxHeartbeats 4000000 in
theorem con_X11_sacks {E : Ex} {Q : Option Value → Mm → Prop} {p0 : Int32} {p1 : Int32} {μ : Mm} (t : p_X11_sacks p0 p1  μ) (k : Q (some (.int (v_X11_sacks p0 p1 μ))) (e_X11_sacks p0 p1 μ)) : Con E 4 mX11_sacks [rf E 0, .int p0, .int p1] μ Q := by
  refine Con_J (by decide +kernel) (Nat.le_of_ble_eq_true rfl) (fun G => ?_)
  unfold v_X11_sacks e_X11_sacks at k
  unfold p_X11_sacks at t
  refine J_sub (ls' := [(0, rf E 0), (1, .int p0), (2, .int p1)]) [0, 1, 2] rfl ?_
  refine J_aload_n (dk okX11_sacks 0 rfl) 0 rfl rfl ?_
  refine J_getR (dk okX11_sacks 1 rfl) kfX11_46 ds_0 rfl ?_
  refine J_aload_n (dk okX11_sacks 2 rfl) 0 rfl rfl ?_
  refine J_getR (dk okX11_sacks 3 rfl) kfX11_12 ds_0 rfl ?_
  obtain ⟨s1, t⟩ := t
  refine J_callVv (As := [rf E 1]) (dk okX11_sacks 4 rfl) ds_29 rfl vkX3_note lkX11_185 rfl rfl (Nat.le_of_ble_eq_true rfl) (by decide) (con_X3_note FloorAt_1 s1 ⟨rfl, ?_⟩)
  refine J_nm (fun μ2 eμ2 => ?_)
  have t := t μ2 eμ2
  refine J_aload_n (dk okX11_sacks 5 rfl) 0 rfl rfl ?_
  refine J_aload_n (dk okX11_sacks 6 rfl) 0 rfl rfl ?_
  refine J_getR (dk okX11_sacks 7 rfl) kfX11_12 ds_0 rfl ?_
  refine J_iload_n (dk okX11_sacks 8 rfl) 1 rfl rfl ?_
  refine J_iload_n (dk okX11_sacks 9 rfl) 2 rfl rfl ?_
  have s3 := t
  refine J_callVi (As := [.int p0, .int p1]) (dk okX11_sacks 10 rfl) ds_1 rfl vkX1_burden lkX11_217 rfl rfl (Nat.le_of_ble_eq_true rfl) (by decide) (con_X1_burden FloorAt_1 s3 ⟨_, rfl, ?_⟩)
  refine J_nm (fun μ4 eμ4 => ?_)
  refine J_callVi (As := [.int (v_X1_burden 1 p0 p1 μ2)]) (dk okX11_sacks 11 rfl) ds_0 rfl vkX11_committed lkX11_214 rfl rfl (Nat.le_of_ble_eq_true rfl) (by decide) (con_X11_committed  ⟨_, rfl, ?_⟩)
  refine J_nm (fun μ5 eμ5 => ?_)
  subst eμ5 eμ4 eμ2
  exact J_iret (dk okX11_sacks 12 rfl) rfl k
/-- VotingFloor.steps(I)I -/
noncomputable def v_X11_steps (p0 : Int32) (μ : Mm) : Int32 := (let μ2 : Mm := (e_X3_note 1 μ); (v_X11_committed (v_X1_stepOffOrOn 1 p0 μ2)))
noncomputable def e_X11_steps (p0 : Int32) (μ : Mm) : Mm := (let μ2 : Mm := (e_X3_note 1 μ); (let μ3 : Mm := (e_X1_stepOffOrOn 1 p0 μ2); (let μ4 : Mm := (e_X11_committed (v_X1_stepOffOrOn 1 p0 μ2) μ3); μ4)))
def p_X11_steps (p0 : Int32)  (μ : Mm) : Prop := p_X3_note 1 μ
set_option maxRecDepth 20000 in
set_option maxHeartbeats 4000000 in
theorem con_X11_steps {E : Ex} {Q : Option Value → Mm → Prop} {p0 : Int32} {μ : Mm} (t : p_X11_steps p0  μ) (k : Q (some (.int (v_X11_steps p0 μ))) (e_X11_steps p0 μ)) : Con E 4 mX11_steps [rf E 0, .int p0] μ Q := by
  refine Con_J (by decide +kernel) (Nat.le_of_ble_eq_true rfl) (fun G => ?_)
  unfold v_X11_steps e_X11_steps at k
  unfold p_X11_steps at t
  refine J_sub (ls' := [(0, rf E 0), (1, .int p0)]) [0, 1] rfl ?_
  refine J_aload_n (dk okX11_steps 0 rfl) 0 rfl rfl ?_
  refine J_getR (dk okX11_steps 1 rfl) kfX11_46 ds_0 rfl ?_
  refine J_aload_n (dk okX11_steps 2 rfl) 0 rfl rfl ?_
  refine J_getR (dk okX11_steps 3 rfl) kfX11_12 ds_0 rfl ?_
  have s1 := t
  refine J_callVv (As := [rf E 1]) (dk okX11_steps 4 rfl) ds_29 rfl vkX3_note lkX11_185 rfl rfl (Nat.le_of_ble_eq_true rfl) (by decide) (con_X3_note FloorAt_1 s1 ⟨rfl, ?_⟩)
  refine J_nm (fun μ2 eμ2 => ?_)
  refine J_aload_n (dk okX11_steps 5 rfl) 0 rfl rfl ?_
  refine J_aload_n (dk okX11_steps 6 rfl) 0 rfl rfl ?_
  refine J_getR (dk okX11_steps 7 rfl) kfX11_12 ds_0 rfl ?_
  refine J_iload_n (dk okX11_steps 8 rfl) 1 rfl rfl ?_
  refine J_callVi (As := [.int p0]) (dk okX11_steps 9 rfl) ds_1 rfl vkX1_stepOffOrOn lkX11_220 rfl rfl (Nat.le_of_ble_eq_true rfl) (by decide) (con_X1_stepOffOrOn FloorAt_1 ⟨_, rfl, ?_⟩)
  refine J_nm (fun μ3 eμ3 => ?_)
  refine J_callVi (As := [.int (v_X1_stepOffOrOn 1 p0 μ2)]) (dk okX11_steps 10 rfl) ds_0 rfl vkX11_committed lkX11_214 rfl rfl (Nat.le_of_ble_eq_true rfl) (by decide) (con_X11_committed  ⟨_, rfl, ?_⟩)
  refine J_nm (fun μ4 eμ4 => ?_)
  subst eμ4 eμ3 eμ2
  exact J_iret (dk okX11_steps 11 rfl) rfl k
/-- VotingFloor.tellFewest(Z)I -/
noncomputable def v_X11_tellFewest (p0 : Int32) (μ : Mm) : Int32 := (let μ2 : Mm := (e_X8_search p0 μ); (if (v_X8_search p0 μ) = 0 then (-2) else (let μ4 : Mm := (e_X10_begin  μ2); (let μ6 : Mm := (e_X10_add (Int32.toInt64 (μ4.1 33 3)) μ4); (v_J6_bitCount_0f7a4 (μ6.1 33 3))))))
noncomputable def e_X11_tellFewest (p0 : Int32) (μ : Mm) : Mm := (let μ2 : Mm := (e_X8_search p0 μ); (if (v_X8_search p0 μ) = 0 then μ2 else (let μ4 : Mm := (e_X10_begin  μ2); (let μ6 : Mm := (e_X10_add (Int32.toInt64 (μ4.1 33 3)) μ4); μ6))))
def p_X11_tellFewest (p0 : Int32)  (μ : Mm) : Prop := (p_X8_search p0 μ) ∧ (∀ μ2 : Mm, μ2 = (e_X8_search p0 μ) → (¬ ((v_X8_search p0 μ) = 0) → (∀ μ4 : Mm, μ4 = (e_X10_begin  μ2) → p_X10_add (Int32.toInt64 (μ4.1 33 3)) μ4)))
set_option maxRecDepth 20000 in
set_option maxHeartbeats 4000000 in
theorem con_X11_tellFewest {E : Ex} {Q : Option Value → Mm → Prop} {p0 : Int32} {μ : Mm} (t : p_X11_tellFewest p0  μ) (k : Q (some (.int (v_X11_tellFewest p0 μ))) (e_X11_tellFewest p0 μ)) : Con E 4 mX11_tellFewest [rf E 0, .int p0] μ Q := by
  refine Con_J (by decide +kernel) (Nat.le_of_ble_eq_true rfl) (fun G => ?_)
  unfold v_X11_tellFewest e_X11_tellFewest at k
  unfold p_X11_tellFewest at t
  refine J_sub (ls' := [(0, rf E 0), (1, .int p0)]) [0, 1] rfl ?_
  refine J_aload_n (dk okX11_tellFewest 0 rfl) 0 rfl rfl ?_
  refine J_getR (dk okX11_tellFewest 1 rfl) kfX11_53 ds_0 rfl ?_
  refine J_iload_n (dk okX11_tellFewest 2 rfl) 1 rfl rfl ?_
  obtain ⟨s1, t⟩ := t
  refine J_callVi (As := [.int p0]) (dk okX11_tellFewest 3 rfl) ds_33 rfl vkX8_search lkX11_298 rfl rfl (Nat.le_of_ble_eq_true rfl) (by decide) (con_X8_search s1 ⟨_, rfl, ?_⟩)
  refine J_nm (fun μ2 eμ2 => ?_)
  have t := t μ2 eμ2
  refine J_if_ne (tgt := 14) (dk okX11_tellFewest 4 rfl) (by decide) (fun h3 => ?_) (fun h3 => ?_)
  · have t := t h3
    refine J_aload_n (dk okX11_tellFewest 7 rfl) 0 rfl rfl ?_
    refine J_getR (dk okX11_tellFewest 8 rfl) kfX11_39 ds_0 rfl ?_
    refine J_callVv (As := []) (dk okX11_tellFewest 9 rfl) ds_27 rfl vkX10_begin lkX11_196 rfl rfl (Nat.le_of_ble_eq_true rfl) (by decide) (con_X10_begin  ⟨rfl, ?_⟩)
    refine J_nm (fun μ4 eμ4 => ?_)
    have t := t μ4 eμ4
    refine J_aload_n (dk okX11_tellFewest 10 rfl) 0 rfl rfl ?_
    refine J_getR (dk okX11_tellFewest 11 rfl) kfX11_39 ds_0 rfl ?_
    refine J_aload_n (dk okX11_tellFewest 12 rfl) 0 rfl rfl ?_
    refine J_getR (dk okX11_tellFewest 13 rfl) kfX11_53 ds_0 rfl ?_
    refine J_getI (dk okX11_tellFewest 14 rfl) kfX11_302 ds_33 rfl ?_
    refine J_i2l (dk okX11_tellFewest 15 rfl) ?_
    have s5 := t
    refine J_callVv (As := [.long (Int32.toInt64 (μ4.1 33 3))]) (dk okX11_tellFewest 16 rfl) ds_27 rfl vkX10_add lkX11_199 rfl rfl (Nat.le_of_ble_eq_true rfl) (by decide) (con_X10_add s5 ⟨rfl, ?_⟩)
    refine J_nm (fun μ6 eμ6 => ?_)
    refine J_aload_n (dk okX11_tellFewest 17 rfl) 0 rfl rfl ?_
    refine J_getR (dk okX11_tellFewest 18 rfl) kfX11_53 ds_0 rfl ?_
    refine J_getI (dk okX11_tellFewest 19 rfl) kfX11_302 ds_33 rfl ?_
    refine J_callSi (As := [.int (μ6.1 33 3)]) (dk okX11_tellFewest 20 rfl) skJ6_bitCount_0f7a4 lkX11_206 rfl rfl (Nat.le_of_ble_eq_true rfl) (by decide) (con_J6_bitCount_0f7a4  ⟨_, rfl, ?_⟩)
    subst eμ6 eμ4 eμ2
    (try simp only [if_neg h3] at k ⊢)
    exact J_iret (dk okX11_tellFewest 21 rfl) rfl k
  · refine J_bipush (v := (-2)) (dk okX11_tellFewest 5 rfl) (by decide) ?_
    subst eμ2
    (try simp only [if_pos h3] at k ⊢)
    exact J_iret (dk okX11_tellFewest 6 rfl) rfl k
/-- VotingFloor.tips()I -/
noncomputable def v_X11_tips  (μ : Mm) : Int32 := (let μ1 : Mm := (e_X10_begin  μ); (let μ4 : Mm := (e_X10_add (Int32.toInt64 (v_X1_momentOnSide 1 1 μ1)) μ1); (let μ7 : Mm := (e_X10_add (Int32.toInt64 (v_X1_momentOnSide 1 (-1) μ4)) μ4); (let μ11 : Mm := (e_X10_add (Int32.toInt64 (v_X1_loadOf 1 (v_X1_standingOn 1 0 μ7) μ7)) μ7); (v_X11_direction (v_X1_moment 1 μ11))))))
noncomputable def e_X11_tips  (μ : Mm) : Mm := (let μ1 : Mm := (e_X10_begin  μ); (let μ4 : Mm := (e_X10_add (Int32.toInt64 (v_X1_momentOnSide 1 1 μ1)) μ1); (let μ7 : Mm := (e_X10_add (Int32.toInt64 (v_X1_momentOnSide 1 (-1) μ4)) μ4); (let μ11 : Mm := (e_X10_add (Int32.toInt64 (v_X1_loadOf 1 (v_X1_standingOn 1 0 μ7) μ7)) μ7); μ11))))
def p_X11_tips   (μ : Mm) : Prop := (∀ μ1 : Mm, μ1 = (e_X10_begin  μ) → (p_X1_momentOnSide 1 1 μ1) ∧ (p_X10_add (Int32.toInt64 (v_X1_momentOnSide 1 1 μ1)) μ1) ∧ (∀ μ4 : Mm, μ4 = (e_X10_add (Int32.toInt64 (v_X1_momentOnSide 1 1 μ1)) μ1) → (p_X1_momentOnSide 1 (-1) μ4) ∧ (p_X10_add (Int32.toInt64 (v_X1_momentOnSide 1 (-1) μ4)) μ4) ∧ (∀ μ7 : Mm, μ7 = (e_X10_add (Int32.toInt64 (v_X1_momentOnSide 1 (-1) μ4)) μ4) → (p_X1_standingOn 1 0 μ7) ∧ (p_X1_loadOf 1 (v_X1_standingOn 1 0 μ7) μ7) ∧ (p_X10_add (Int32.toInt64 (v_X1_loadOf 1 (v_X1_standingOn 1 0 μ7) μ7)) μ7) ∧ (∀ μ11 : Mm, μ11 = (e_X10_add (Int32.toInt64 (v_X1_loadOf 1 (v_X1_standingOn 1 0 μ7) μ7)) μ7) → p_X1_moment 1 μ11))))
set_option maxRecDepth 20000 in
set_option maxHeartbeats 4000000 in
theorem con_X11_tips {E : Ex} {Q : Option Value → Mm → Prop} {μ : Mm} (t : p_X11_tips   μ) (k : Q (some (.int (v_X11_tips  μ))) (e_X11_tips  μ)) : Con E 4 mX11_tips [rf E 0] μ Q := by
  refine Con_J (by decide +kernel) (Nat.le_of_ble_eq_true rfl) (fun G => ?_)
  unfold v_X11_tips e_X11_tips at k
  unfold p_X11_tips at t
  refine J_sub (ls' := [(0, rf E 0)]) [0] rfl ?_
  refine J_aload_n (dk okX11_tips 0 rfl) 0 rfl rfl ?_
  refine J_getR (dk okX11_tips 1 rfl) kfX11_39 ds_0 rfl ?_
  refine J_callVv (As := []) (dk okX11_tips 2 rfl) ds_27 rfl vkX10_begin lkX11_196 rfl rfl (Nat.le_of_ble_eq_true rfl) (by decide) (con_X10_begin  ⟨rfl, ?_⟩)
  refine J_nm (fun μ1 eμ1 => ?_)
  have t := t μ1 eμ1
  refine J_aload_n (dk okX11_tips 3 rfl) 0 rfl rfl ?_
  refine J_getR (dk okX11_tips 4 rfl) kfX11_39 ds_0 rfl ?_
  refine J_aload_n (dk okX11_tips 5 rfl) 0 rfl rfl ?_
  refine J_getR (dk okX11_tips 6 rfl) kfX11_12 ds_0 rfl ?_
  refine J_iconst (v := 1) (dk okX11_tips 7 rfl) (by decide) ?_
  obtain ⟨s2, t⟩ := t
  refine J_callVi (As := [.int 1]) (dk okX11_tips 8 rfl) ds_1 rfl vkX1_momentOnSide lkX11_250 rfl rfl (Nat.le_of_ble_eq_true rfl) (by decide) (con_X1_momentOnSide FloorAt_1 s2 ⟨_, rfl, ?_⟩)
  refine J_i2l (dk okX11_tips 9 rfl) ?_
  obtain ⟨s3, t⟩ := t
  refine J_callVv (As := [.long (Int32.toInt64 (v_X1_momentOnSide 1 1 μ1))]) (dk okX11_tips 10 rfl) ds_27 rfl vkX10_add lkX11_199 rfl rfl (Nat.le_of_ble_eq_true rfl) (by decide) (con_X10_add s3 ⟨rfl, ?_⟩)
  refine J_nm (fun μ4 eμ4 => ?_)
  have t := t μ4 eμ4
  refine J_aload_n (dk okX11_tips 11 rfl) 0 rfl rfl ?_
  refine J_getR (dk okX11_tips 12 rfl) kfX11_39 ds_0 rfl ?_
  refine J_aload_n (dk okX11_tips 13 rfl) 0 rfl rfl ?_
  refine J_getR (dk okX11_tips 14 rfl) kfX11_12 ds_0 rfl ?_
  refine J_iconst (v := (-1)) (dk okX11_tips 15 rfl) (by decide) ?_
  obtain ⟨s5, t⟩ := t
  refine J_callVi (As := [.int (-1)]) (dk okX11_tips 16 rfl) ds_1 rfl vkX1_momentOnSide lkX11_250 rfl rfl (Nat.le_of_ble_eq_true rfl) (by decide) (con_X1_momentOnSide FloorAt_1 s5 ⟨_, rfl, ?_⟩)
  refine J_i2l (dk okX11_tips 17 rfl) ?_
  obtain ⟨s6, t⟩ := t
  refine J_callVv (As := [.long (Int32.toInt64 (v_X1_momentOnSide 1 (-1) μ4))]) (dk okX11_tips 18 rfl) ds_27 rfl vkX10_add lkX11_199 rfl rfl (Nat.le_of_ble_eq_true rfl) (by decide) (con_X10_add s6 ⟨rfl, ?_⟩)
  refine J_nm (fun μ7 eμ7 => ?_)
  have t := t μ7 eμ7
  refine J_aload_n (dk okX11_tips 19 rfl) 0 rfl rfl ?_
  refine J_getR (dk okX11_tips 20 rfl) kfX11_39 ds_0 rfl ?_
  refine J_aload_n (dk okX11_tips 21 rfl) 0 rfl rfl ?_
  refine J_getR (dk okX11_tips 22 rfl) kfX11_12 ds_0 rfl ?_
  refine J_aload_n (dk okX11_tips 23 rfl) 0 rfl rfl ?_
  refine J_getR (dk okX11_tips 24 rfl) kfX11_12 ds_0 rfl ?_
  refine J_iconst (v := 0) (dk okX11_tips 25 rfl) (by decide) ?_
  obtain ⟨s8, t⟩ := t
  refine J_callVi (As := [.int 0]) (dk okX11_tips 26 rfl) ds_1 rfl vkX1_standingOn lkX11_203 rfl rfl (Nat.le_of_ble_eq_true rfl) (by decide) (con_X1_standingOn FloorAt_1 s8 ⟨_, rfl, ?_⟩)
  obtain ⟨s9, t⟩ := t
  refine J_callVi (As := [.int (v_X1_standingOn 1 0 μ7)]) (dk okX11_tips 27 rfl) ds_1 rfl vkX1_loadOf lkX11_253 rfl rfl (Nat.le_of_ble_eq_true rfl) (by decide) (con_X1_loadOf FloorAt_1 s9 ⟨_, rfl, ?_⟩)
  refine J_i2l (dk okX11_tips 28 rfl) ?_
  obtain ⟨s10, t⟩ := t
  refine J_callVv (As := [.long (Int32.toInt64 (v_X1_loadOf 1 (v_X1_standingOn 1 0 μ7) μ7))]) (dk okX11_tips 29 rfl) ds_27 rfl vkX10_add lkX11_199 rfl rfl (Nat.le_of_ble_eq_true rfl) (by decide) (con_X10_add s10 ⟨rfl, ?_⟩)
  refine J_nm (fun μ11 eμ11 => ?_)
  have t := t μ11 eμ11
  refine J_aload_n (dk okX11_tips 30 rfl) 0 rfl rfl ?_
  refine J_getR (dk okX11_tips 31 rfl) kfX11_12 ds_0 rfl ?_
  have s12 := t
  refine J_callVi (As := []) (dk okX11_tips 32 rfl) ds_1 rfl vkX1_moment lkX11_163 rfl rfl (Nat.le_of_ble_eq_true rfl) (by decide) (con_X1_moment FloorAt_1 s12 ⟨_, rfl, ?_⟩)
  refine J_callSi (As := [.int (v_X1_moment 1 μ11)]) (dk okX11_tips 33 rfl) skX11_direction lkX11_256 rfl rfl (Nat.le_of_ble_eq_true rfl) (by decide) (con_X11_direction  ⟨_, rfl, ?_⟩)
  subst eμ11 eμ7 eμ4 eμ1
  exact J_iret (dk okX11_tips 34 rfl) rfl k
/-- VotingFloor.turnsTo(II)I -/
noncomputable def v_X11_turnsTo (p0 : Int32) (p1 : Int32) (μ : Mm) : Int32 := (let μ2 : Mm := (e_X3_note 1 μ); (v_X11_committed (v_X1_turn 1 p0 p1 μ2)))
noncomputable def e_X11_turnsTo (p0 : Int32) (p1 : Int32) (μ : Mm) : Mm := (let μ2 : Mm := (e_X3_note 1 μ); (let μ4 : Mm := (e_X1_turn 1 p0 p1 μ2); (let μ5 : Mm := (e_X11_committed (v_X1_turn 1 p0 p1 μ2) μ4); μ5)))
def p_X11_turnsTo (p0 : Int32) (p1 : Int32)  (μ : Mm) : Prop := (p_X3_note 1 μ) ∧ (∀ μ2 : Mm, μ2 = (e_X3_note 1 μ) → p_X1_turn 1 p0 p1 μ2)
set_option maxRecDepth 20000 in
set_option maxHeartbeats 4000000 in
theorem con_X11_turnsTo {E : Ex} {Q : Option Value → Mm → Prop} {p0 : Int32} {p1 : Int32} {μ : Mm} (t : p_X11_turnsTo p0 p1  μ) (k : Q (some (.int (v_X11_turnsTo p0 p1 μ))) (e_X11_turnsTo p0 p1 μ)) : Con E 4 mX11_turnsTo [rf E 0, .int p0, .int p1] μ Q := by
  refine Con_J (by decide +kernel) (Nat.le_of_ble_eq_true rfl) (fun G => ?_)
  unfold v_X11_turnsTo e_X11_turnsTo at k
  unfold p_X11_turnsTo at t
  refine J_sub (ls' := [(0, rf E 0), (1, .int p0), (2, .int p1)]) [0, 1, 2] rfl ?_
  refine J_aload_n (dk okX11_turnsTo 0 rfl) 0 rfl rfl ?_
  refine J_getR (dk okX11_turnsTo 1 rfl) kfX11_46 ds_0 rfl ?_
  refine J_aload_n (dk okX11_turnsTo 2 rfl) 0 rfl rfl ?_
  refine J_getR (dk okX11_turnsTo 3 rfl) kfX11_12 ds_0 rfl ?_
  obtain ⟨s1, t⟩ := t
  refine J_callVv (As := [rf E 1]) (dk okX11_turnsTo 4 rfl) ds_29 rfl vkX3_note lkX11_185 rfl rfl (Nat.le_of_ble_eq_true rfl) (by decide) (con_X3_note FloorAt_1 s1 ⟨rfl, ?_⟩)
  refine J_nm (fun μ2 eμ2 => ?_)
  have t := t μ2 eμ2
  refine J_aload_n (dk okX11_turnsTo 5 rfl) 0 rfl rfl ?_
  refine J_aload_n (dk okX11_turnsTo 6 rfl) 0 rfl rfl ?_
  refine J_getR (dk okX11_turnsTo 7 rfl) kfX11_12 ds_0 rfl ?_
  refine J_iload_n (dk okX11_turnsTo 8 rfl) 1 rfl rfl ?_
  refine J_iload_n (dk okX11_turnsTo 9 rfl) 2 rfl rfl ?_
  have s3 := t
  refine J_callVi (As := [.int p0, .int p1]) (dk okX11_turnsTo 10 rfl) ds_1 rfl vkX1_turn lkX11_223 rfl rfl (Nat.le_of_ble_eq_true rfl) (by decide) (con_X1_turn FloorAt_1 s3 ⟨_, rfl, ?_⟩)
  refine J_nm (fun μ4 eμ4 => ?_)
  refine J_callVi (As := [.int (v_X1_turn 1 p0 p1 μ2)]) (dk okX11_turnsTo 11 rfl) ds_0 rfl vkX11_committed lkX11_214 rfl rfl (Nat.le_of_ble_eq_true rfl) (by decide) (con_X11_committed  ⟨_, rfl, ?_⟩)
  refine J_nm (fun μ5 eμ5 => ?_)
  subst eμ5 eμ4 eμ2
  exact J_iret (dk okX11_turnsTo 12 rfl) rfl k
noncomputable def bd_X11_walks_77  (x2 : Int32) (x3 : Int32) (x4 : Int32) (x5 : Int32) (μ : Mm) : (Int32 × Int32 × Int32 × Int32 × Mm) ⊕ (Int32 × Mm) := (if (μ.1 1 0) ≤ x5 then .inr (x2, μ) else (let μ4 : Mm := (e_X10_add (Int32.toInt64 (v_X7_farthestOf x5 x3 x4 μ)) μ); .inl (x2, (x3 - (v_X7_farthestOf x5 x3 x4 μ)), (x4 - ((v_X7_farthestOf x5 x3 x4 μ) * (v_X1_load 1 x5 μ4))), (x5 + 1), μ4)))
def sd_X11_walks_77   (x2 : Int32) (x3 : Int32) (x4 : Int32) (x5 : Int32) (μ : Mm) : Prop := (¬ ((μ.1 1 0) ≤ x5) → (p_X7_farthestOf x5 x3 x4 μ) ∧ (p_X10_add (Int32.toInt64 (v_X7_farthestOf x5 x3 x4 μ)) μ) ∧ (∀ μ4 : Mm, μ4 = (e_X10_add (Int32.toInt64 (v_X7_farthestOf x5 x3 x4 μ)) μ) → p_X1_load 1 x5 μ4))
set_option maxRecDepth 20000 in
set_option maxHeartbeats 4000000 in
theorem lw_X11_walks_77 {E : Ex} {G : Gx} {Q : Option Value → Mm → Prop} {x2 : Int32} {x3 : Int32} {x4 : Int32} {x5 : Int32} {μ : Mm}  (p : whP (fun s : Int32 × Int32 × Int32 × Int32 × Mm => bd_X11_walks_77  s.1 s.2.1 s.2.2.1 s.2.2.2.1 s.2.2.2.2) (fun s : Int32 × Int32 × Int32 × Int32 × Mm => sd_X11_walks_77   s.1 s.2.1 s.2.2.1 s.2.2.2.1 s.2.2.2.2) FU (x2, x3, x4, x5, μ)) (k : ∀ r : Int32 × Mm, r = whl (fun s : Int32 × Int32 × Int32 × Int32 × Mm => bd_X11_walks_77  s.1 s.2.1 s.2.2.1 s.2.2.2.1 s.2.2.2.2) (fun s : Int32 × Int32 × Int32 × Int32 × Mm => (0, s.2.2.2.2)) FU (x2, x3, x4, x5, μ) → J E G 4 mX11_walks Q 141 [(2, .int (r.1))] [] (r.2)) : J E G 4 mX11_walks Q 77 [(0, rf E 0), (2, .int x2), (3, .int x3), (4, .int x4), (5, .int x5)] [] μ := by
  refine J_whl (f := (fun s : Int32 × Int32 × Int32 × Int32 × Mm => bd_X11_walks_77  s.1 s.2.1 s.2.2.1 s.2.2.2.1 s.2.2.2.2)) (dd := (fun s : Int32 × Int32 × Int32 × Int32 × Mm => (0, s.2.2.2.2))) (sd := (fun s : Int32 × Int32 × Int32 × Int32 × Mm => sd_X11_walks_77   s.1 s.2.1 s.2.2.1 s.2.2.2.1 s.2.2.2.2)) (P := fun s : Int32 × Int32 × Int32 × Int32 × Mm => J E G 4 mX11_walks Q 77 [(0, rf E 0), (2, .int (s.1)), (3, .int (s.2.1)), (4, .int (s.2.2.1)), (5, .int (s.2.2.2.1))] [] (s.2.2.2.2)) (R := fun r : Int32 × Mm => J E G 4 mX11_walks Q 141 [(2, .int (r.1))] [] (r.2)) ?_ FU (x2, x3, x4, x5, μ) p (k _ rfl)
  clear p k
  rintro ⟨x2, x3, x4, x5, μ⟩ t k1 k2
  dsimp only [sd_X11_walks_77] at t
  have kb : ∀ (y2 : Int32) (y3 : Int32) (y4 : Int32) (y5 : Int32) (μ9 : Mm), bd_X11_walks_77  x2 x3 x4 x5 μ = .inl (y2, y3, y4, y5, μ9) → J E G 4 mX11_walks Q 77 [(0, rf E 0), (2, .int y2), (3, .int y3), (4, .int y4), (5, .int y5)] [] μ9 := fun y2 y3 y4 y5 μ9 h => k1 (y2, y3, y4, y5, μ9) h
  have kx : ∀ (y2 : Int32) (μ9 : Mm), bd_X11_walks_77  x2 x3 x4 x5 μ = .inr (y2, μ9) → J E G 4 mX11_walks Q 141 [(2, .int y2)] [] μ9 := fun y2 μ9 h => k2 (y2, μ9) h
  clear k1 k2
  refine J_iload (dk okX11_walks 43 rfl) 4 rfl ?_
  refine J_aload_n (dk okX11_walks 44 rfl) 0 rfl rfl ?_
  refine J_getR (dk okX11_walks 45 rfl) kfX11_12 ds_0 rfl ?_
  refine J_getI (dk okX11_walks 46 rfl) kfX11_106 ds_1 rfl ?_
  refine J_icmp_ge (tgt := 141) (dk okX11_walks 47 rfl) (by decide) (fun h1 => ?_) (fun h1 => ?_)
  · exact J_sub [1] rfl (kx x2 μ (by unfold bd_X11_walks_77; first | (simp only [if_pos h1]; done) | (simp only [if_pos h1]; rfl) | rfl))
  · have t := t h1
    refine J_aload_n (dk okX11_walks 48 rfl) 0 rfl rfl ?_
    refine J_getR (dk okX11_walks 49 rfl) kfX11_60 ds_0 rfl ?_
    refine J_iload (dk okX11_walks 50 rfl) 4 rfl ?_
    refine J_iload_n (dk okX11_walks 51 rfl) 2 rfl rfl ?_
    refine J_iload (dk okX11_walks 52 rfl) 3 rfl ?_
    obtain ⟨s2, t⟩ := t
    refine J_callVi (As := [.int x5, .int x3, .int x4]) (dk okX11_walks 53 rfl) ds_35 rfl vkX7_farthestOf lkX11_281 rfl rfl (Nat.le_of_ble_eq_true rfl) (by decide) (con_X7_farthestOf s2 ⟨_, rfl, ?_⟩)
    refine J_istore (ls' := [(6, _), (0, _), (2, _), (3, _), (4, _), (5, _)]) (dk okX11_walks 54 rfl) (by decide) rfl ?_
    refine J_aload_n (dk okX11_walks 55 rfl) 1 rfl rfl ?_
    refine J_getR (dk okX11_walks 56 rfl) kfX11_39 ds_0 rfl ?_
    refine J_iload (dk okX11_walks 57 rfl) 0 rfl ?_
    refine J_i2l (dk okX11_walks 58 rfl) ?_
    obtain ⟨s3, t⟩ := t
    refine J_callVv (As := [.long (Int32.toInt64 (v_X7_farthestOf x5 x3 x4 μ))]) (dk okX11_walks 59 rfl) ds_27 rfl vkX10_add lkX11_199 rfl rfl (Nat.le_of_ble_eq_true rfl) (by decide) (con_X10_add s3 ⟨rfl, ?_⟩)
    refine J_nm (fun μ4 eμ4 => ?_)
    have t := t μ4 eμ4
    refine J_iload_n (dk okX11_walks 60 rfl) 3 rfl rfl ?_
    refine J_iload (dk okX11_walks 61 rfl) 0 rfl ?_
    refine J_isub (dk okX11_walks 62 rfl) ?_
    refine J_istore_n (ls' := [(3, _), (6, _), (0, _), (2, _), (4, _), (5, _)]) (dk okX11_walks 63 rfl) rfl (by decide) rfl ?_
    refine J_iload (dk okX11_walks 64 rfl) 4 rfl ?_
    refine J_iload (dk okX11_walks 65 rfl) 1 rfl ?_
    refine J_aload_n (dk okX11_walks 66 rfl) 2 rfl rfl ?_
    refine J_getR (dk okX11_walks 67 rfl) kfX11_12 ds_0 rfl ?_
    refine J_iload (dk okX11_walks 68 rfl) 5 rfl ?_
    have s5 := t
    refine J_callVi (As := [.int x5]) (dk okX11_walks 69 rfl) ds_1 rfl vkX1_load lkX11_285 rfl rfl (Nat.le_of_ble_eq_true rfl) (by decide) (con_X1_load FloorAt_1 s5 ⟨_, rfl, ?_⟩)
    refine J_imul (dk okX11_walks 70 rfl) ?_
    refine J_isub (dk okX11_walks 71 rfl) ?_
    refine J_istore (ls' := [(4, _), (3, _), (6, _), (0, _), (2, _), (5, _)]) (dk okX11_walks 72 rfl) (by decide) rfl ?_
    refine J_iinc (v := (x5 + 1)) (ls' := [(5, _), (4, _), (3, _), (6, _), (0, _), (2, _)]) (dk okX11_walks 73 rfl) 5 rfl rfl (by decide) rfl ?_
    refine J_goto (tgt := 77) (dk okX11_walks 74 rfl) (by decide) ?_
    exact J_sub [4, 5, 2, 1, 0] rfl (kb x2 (x3 - (v_X7_farthestOf x5 x3 x4 μ)) (x4 - ((v_X7_farthestOf x5 x3 x4 μ) * (v_X1_load 1 x5 μ4))) (x5 + 1) μ4 (by subst eμ4; unfold bd_X11_walks_77; first | (simp only [if_neg h1]; done) | (simp only [if_neg h1]; rfl) | rfl))
/-- VotingFloor.walks(I)I -/
noncomputable def v_X11_walks (p0 : Int32) (μ : Mm) : Int32 := (if (p0 &&& ((v_X1_present 1 μ) ^^^ (-1))) = 0 then (let μ3 : Mm := (e_X7_setOut 1 p0 μ); (if (v_X7_fewest (1 - (v_X1_moment 1 μ3)) μ3) = (-2) then (-2) else (let μ7 : Mm := (e_X10_begin  μ3); (let r10 : Int32 × Mm := whl (fun s : Int32 × Int32 × Int32 × Int32 × Mm => bd_X11_walks_77  s.1 s.2.1 s.2.2.1 s.2.2.2.1 s.2.2.2.2) (fun s : Int32 × Int32 × Int32 × Int32 × Mm => (0, s.2.2.2.2)) FU ((v_X7_fewest (1 - (v_X1_moment 1 μ3)) μ3), (v_X7_fewest (1 - (v_X1_moment 1 μ3)) μ3), (1 - (v_X1_moment 1 μ7)), 0, μ7); (r10.1))))) else (-1))
noncomputable def e_X11_walks (p0 : Int32) (μ : Mm) : Mm := (if (p0 &&& ((v_X1_present 1 μ) ^^^ (-1))) = 0 then (let μ3 : Mm := (e_X7_setOut 1 p0 μ); (if (v_X7_fewest (1 - (v_X1_moment 1 μ3)) μ3) = (-2) then μ3 else (let μ7 : Mm := (e_X10_begin  μ3); (let r10 : Int32 × Mm := whl (fun s : Int32 × Int32 × Int32 × Int32 × Mm => bd_X11_walks_77  s.1 s.2.1 s.2.2.1 s.2.2.2.1 s.2.2.2.2) (fun s : Int32 × Int32 × Int32 × Int32 × Mm => (0, s.2.2.2.2)) FU ((v_X7_fewest (1 - (v_X1_moment 1 μ3)) μ3), (v_X7_fewest (1 - (v_X1_moment 1 μ3)) μ3), (1 - (v_X1_moment 1 μ7)), 0, μ7); (r10.2))))) else μ)
def p_X11_walks (p0 : Int32)  (μ : Mm) : Prop := ((p0 &&& ((v_X1_present 1 μ) ^^^ (-1))) = 0 → (p_X7_setOut 1 p0 μ) ∧ (∀ μ3 : Mm, μ3 = (e_X7_setOut 1 p0 μ) → (p_X1_moment 1 μ3) ∧ (p_X7_fewest (1 - (v_X1_moment 1 μ3)) μ3) ∧ (¬ ((v_X7_fewest (1 - (v_X1_moment 1 μ3)) μ3) = (-2)) → (∀ μ7 : Mm, μ7 = (e_X10_begin  μ3) → (p_X1_moment 1 μ7) ∧ whP (fun s : Int32 × Int32 × Int32 × Int32 × Mm => bd_X11_walks_77  s.1 s.2.1 s.2.2.1 s.2.2.2.1 s.2.2.2.2) (fun s : Int32 × Int32 × Int32 × Int32 × Mm => sd_X11_walks_77   s.1 s.2.1 s.2.2.1 s.2.2.2.1 s.2.2.2.2) FU ((v_X7_fewest (1 - (v_X1_moment 1 μ3)) μ3), (v_X7_fewest (1 - (v_X1_moment 1 μ3)) μ3), (1 - (v_X1_moment 1 μ7)), 0, μ7)))))
set_option maxRecDepth 20000 in
set_option maxHeartbeats 4000000 in
theorem con_X11_walks {E : Ex} {Q : Option Value → Mm → Prop} {p0 : Int32} {μ : Mm} (t : p_X11_walks p0  μ) (k : Q (some (.int (v_X11_walks p0 μ))) (e_X11_walks p0 μ)) : Con E 4 mX11_walks [rf E 0, .int p0] μ Q := by
  refine Con_J (by decide +kernel) (Nat.le_of_ble_eq_true rfl) (fun G => ?_)
  unfold v_X11_walks e_X11_walks at k
  unfold p_X11_walks at t
  refine J_sub (ls' := [(0, rf E 0), (1, .int p0)]) [0, 1] rfl ?_
  refine J_iload_n (dk okX11_walks 0 rfl) 1 rfl rfl ?_
  refine J_aload_n (dk okX11_walks 1 rfl) 0 rfl rfl ?_
  refine J_getR (dk okX11_walks 2 rfl) kfX11_12 ds_0 rfl ?_
  refine J_callVi (As := []) (dk okX11_walks 3 rfl) ds_1 rfl vkX1_present lkX11_271 rfl rfl (Nat.le_of_ble_eq_true rfl) (by decide) (con_X1_present FloorAt_1 ⟨_, rfl, ?_⟩)
  refine J_iconst (v := (-1)) (dk okX11_walks 4 rfl) (by decide) ?_
  refine J_ixor (dk okX11_walks 5 rfl) ?_
  refine J_iand (dk okX11_walks 6 rfl) ?_
  refine J_if_eq (tgt := 16) (dk okX11_walks 7 rfl) (by decide) (fun h1 => ?_) (fun h1 => ?_)
  · have t := t h1
    refine J_aload_n (dk okX11_walks 10 rfl) 0 rfl rfl ?_
    refine J_getR (dk okX11_walks 11 rfl) kfX11_60 ds_0 rfl ?_
    refine J_aload_n (dk okX11_walks 12 rfl) 0 rfl rfl ?_
    refine J_getR (dk okX11_walks 13 rfl) kfX11_12 ds_0 rfl ?_
    refine J_iload_n (dk okX11_walks 14 rfl) 1 rfl rfl ?_
    obtain ⟨s2, t⟩ := t
    refine J_callVv (As := [rf E 1, .int p0]) (dk okX11_walks 15 rfl) ds_35 rfl vkX7_setOut lkX11_274 rfl rfl (Nat.le_of_ble_eq_true rfl) (by decide) (con_X7_setOut FloorAt_1 s2 ⟨rfl, ?_⟩)
    refine J_nm (fun μ3 eμ3 => ?_)
    have t := t μ3 eμ3
    refine J_aload_n (dk okX11_walks 16 rfl) 0 rfl rfl ?_
    refine J_getR (dk okX11_walks 17 rfl) kfX11_60 ds_0 rfl ?_
    refine J_iconst (v := 1) (dk okX11_walks 18 rfl) (by decide) ?_
    refine J_aload_n (dk okX11_walks 19 rfl) 0 rfl rfl ?_
    refine J_getR (dk okX11_walks 20 rfl) kfX11_12 ds_0 rfl ?_
    obtain ⟨s4, t⟩ := t
    refine J_callVi (As := []) (dk okX11_walks 21 rfl) ds_1 rfl vkX1_moment lkX11_163 rfl rfl (Nat.le_of_ble_eq_true rfl) (by decide) (con_X1_moment FloorAt_1 s4 ⟨_, rfl, ?_⟩)
    refine J_isub (dk okX11_walks 22 rfl) ?_
    obtain ⟨s5, t⟩ := t
    refine J_callVi (As := [.int (1 - (v_X1_moment 1 μ3))]) (dk okX11_walks 23 rfl) ds_35 rfl vkX7_fewest lkX11_278 rfl rfl (Nat.le_of_ble_eq_true rfl) (by decide) (con_X7_fewest s5 ⟨_, rfl, ?_⟩)
    refine J_istore_n (ls' := [(2, _), (0, _), (1, _)]) (dk okX11_walks 24 rfl) rfl (by decide) rfl ?_
    refine J_iload_n (dk okX11_walks 25 rfl) 0 rfl rfl ?_
    refine J_bipush (v := (-2)) (dk okX11_walks 26 rfl) (by decide) ?_
    refine J_icmp_ne (tgt := 54) (dk okX11_walks 27 rfl) (by decide) (fun h6 => ?_) (fun h6 => ?_)
    · have t := t h6
      refine J_aload_n (dk okX11_walks 30 rfl) 1 rfl rfl ?_
      refine J_getR (dk okX11_walks 31 rfl) kfX11_39 ds_0 rfl ?_
      refine J_callVv (As := []) (dk okX11_walks 32 rfl) ds_27 rfl vkX10_begin lkX11_196 rfl rfl (Nat.le_of_ble_eq_true rfl) (by decide) (con_X10_begin  ⟨rfl, ?_⟩)
      refine J_nm (fun μ7 eμ7 => ?_)
      have t := t μ7 eμ7
      refine J_iload_n (dk okX11_walks 33 rfl) 0 rfl rfl ?_
      refine J_istore_n (ls' := [(3, _), (2, _), (0, _), (1, _)]) (dk okX11_walks 34 rfl) rfl (by decide) rfl ?_
      refine J_iconst (v := 1) (dk okX11_walks 35 rfl) (by decide) ?_
      refine J_aload_n (dk okX11_walks 36 rfl) 2 rfl rfl ?_
      refine J_getR (dk okX11_walks 37 rfl) kfX11_12 ds_0 rfl ?_
      obtain ⟨s8, t⟩ := t
      refine J_callVi (As := []) (dk okX11_walks 38 rfl) ds_1 rfl vkX1_moment lkX11_163 rfl rfl (Nat.le_of_ble_eq_true rfl) (by decide) (con_X1_moment FloorAt_1 s8 ⟨_, rfl, ?_⟩)
      refine J_isub (dk okX11_walks 39 rfl) ?_
      refine J_istore (ls' := [(4, _), (3, _), (2, _), (0, _), (1, _)]) (dk okX11_walks 40 rfl) (by decide) rfl ?_
      refine J_iconst (v := 0) (dk okX11_walks 41 rfl) (by decide) ?_
      refine J_istore (ls' := [(5, _), (4, _), (3, _), (2, _), (0, _), (1, _)]) (dk okX11_walks 42 rfl) (by decide) rfl ?_
      have s9 := t
      refine J_sub (ls' := [(0, _), (2, _), (3, _), (4, _), (5, _)]) [4, 3, 2, 1, 0] rfl ?_
      refine lw_X11_walks_77  s9 (fun r10 er10 => ?_)
      refine J_iload_n (dk okX11_walks 75 rfl) 0 rfl rfl ?_
      subst er10 eμ7 eμ3
      (try simp only [if_pos h1, if_neg h6] at k ⊢)
      exact J_iret (dk okX11_walks 76 rfl) rfl k
    · refine J_bipush (v := (-2)) (dk okX11_walks 28 rfl) (by decide) ?_
      subst eμ3
      (try simp only [if_pos h1, if_pos h6] at k ⊢)
      exact J_iret (dk okX11_walks 29 rfl) rfl k
  · refine J_iconst (v := (-1)) (dk okX11_walks 8 rfl) (by decide) ?_
    (try simp only [if_neg h1] at k ⊢)
    exact J_iret (dk okX11_walks 9 rfl) rfl k
noncomputable def bd_X11_waysDecidedBy_22  (x1 : Int32) (x2 : Int32) (x3 : Int32) (x4 : Int32) (x5 : Int32) (μ : Mm) : (Int32 × Int32 × Int32 × Int32 × Int32 × Mm) ⊕ (Int32 × Int32 × Int32 × Mm) := (if (μ.1 1 0) ≤ x5 then .inr (x2, x3, x4, μ) else (let μ5 : Mm := (upI μ 34 (Int32.toNatClampNeg x5) (2 * ((v_X1_load 1 x5 μ) * (if 0 ≤ (μ.1 3 (Int32.toNatClampNeg x5)) then (μ.1 3 (Int32.toNatClampNeg x5)) else 0 - (μ.1 3 (Int32.toNatClampNeg x5)))))); .inl (x1, x2, (if x5 = x1 then x3 else (if (v_X1_isOff 1 x5 μ5) = 0 then (x3 - ((v_X1_load 1 x5 μ) * (if 0 ≤ (μ.1 3 (Int32.toNatClampNeg x5)) then (μ.1 3 (Int32.toNatClampNeg x5)) else 0 - (μ.1 3 (Int32.toNatClampNeg x5))))) else x3 : Int32) : Int32), (if x5 = x1 then ((v_X1_load 1 x5 μ) * (if 0 ≤ (μ.1 3 (Int32.toNatClampNeg x5)) then (μ.1 3 (Int32.toNatClampNeg x5)) else 0 - (μ.1 3 (Int32.toNatClampNeg x5)))) else x4 : Int32), (x5 + 1), μ5)))
def sd_X11_waysDecidedBy_22   (x1 : Int32) (x2 : Int32) (x3 : Int32) (x4 : Int32) (x5 : Int32) (μ : Mm) : Prop := (¬ ((μ.1 1 0) ≤ x5) → (p_X1_load 1 x5 μ) ∧ (vp_in x5 7) ∧ vp_in x5 7)
set_option maxRecDepth 20000 in
set_option maxHeartbeats 4000000 in
theorem lw_X11_waysDecidedBy_22 {E : Ex} {G : Gx} {Q : Option Value → Mm → Prop} {x1 : Int32} {x2 : Int32} {x3 : Int32} {x4 : Int32} {x5 : Int32} {μ : Mm}  (p : whP (fun s : Int32 × Int32 × Int32 × Int32 × Int32 × Mm => bd_X11_waysDecidedBy_22  s.1 s.2.1 s.2.2.1 s.2.2.2.1 s.2.2.2.2.1 s.2.2.2.2.2) (fun s : Int32 × Int32 × Int32 × Int32 × Int32 × Mm => sd_X11_waysDecidedBy_22   s.1 s.2.1 s.2.2.1 s.2.2.2.1 s.2.2.2.2.1 s.2.2.2.2.2) FU (x1, x2, x3, x4, x5, μ)) (k : ∀ r : Int32 × Int32 × Int32 × Mm, r = whl (fun s : Int32 × Int32 × Int32 × Int32 × Int32 × Mm => bd_X11_waysDecidedBy_22  s.1 s.2.1 s.2.2.1 s.2.2.2.1 s.2.2.2.2.1 s.2.2.2.2.2) (fun s : Int32 × Int32 × Int32 × Int32 × Int32 × Mm => (0, 0, 0, s.2.2.2.2.2)) FU (x1, x2, x3, x4, x5, μ) → J E G 4 mX11_waysDecidedBy Q 109 [(0, rf E 0), (2, .int (r.1)), (3, .int (r.2.1)), (4, .int (r.2.2.1))] [] (r.2.2.2)) : J E G 4 mX11_waysDecidedBy Q 22 [(0, rf E 0), (1, .int x1), (2, .int x2), (3, .int x3), (4, .int x4), (5, .int x5)] [] μ := by
  refine J_whl (f := (fun s : Int32 × Int32 × Int32 × Int32 × Int32 × Mm => bd_X11_waysDecidedBy_22  s.1 s.2.1 s.2.2.1 s.2.2.2.1 s.2.2.2.2.1 s.2.2.2.2.2)) (dd := (fun s : Int32 × Int32 × Int32 × Int32 × Int32 × Mm => (0, 0, 0, s.2.2.2.2.2))) (sd := (fun s : Int32 × Int32 × Int32 × Int32 × Int32 × Mm => sd_X11_waysDecidedBy_22   s.1 s.2.1 s.2.2.1 s.2.2.2.1 s.2.2.2.2.1 s.2.2.2.2.2)) (P := fun s : Int32 × Int32 × Int32 × Int32 × Int32 × Mm => J E G 4 mX11_waysDecidedBy Q 22 [(0, rf E 0), (1, .int (s.1)), (2, .int (s.2.1)), (3, .int (s.2.2.1)), (4, .int (s.2.2.2.1)), (5, .int (s.2.2.2.2.1))] [] (s.2.2.2.2.2)) (R := fun r : Int32 × Int32 × Int32 × Mm => J E G 4 mX11_waysDecidedBy Q 109 [(0, rf E 0), (2, .int (r.1)), (3, .int (r.2.1)), (4, .int (r.2.2.1))] [] (r.2.2.2)) ?_ FU (x1, x2, x3, x4, x5, μ) p (k _ rfl)
  clear p k
  rintro ⟨x1, x2, x3, x4, x5, μ⟩ t k1 k2
  dsimp only [sd_X11_waysDecidedBy_22] at t
  have kb : ∀ (y1 : Int32) (y2 : Int32) (y3 : Int32) (y4 : Int32) (y5 : Int32) (μ9 : Mm), bd_X11_waysDecidedBy_22  x1 x2 x3 x4 x5 μ = .inl (y1, y2, y3, y4, y5, μ9) → J E G 4 mX11_waysDecidedBy Q 22 [(0, rf E 0), (1, .int y1), (2, .int y2), (3, .int y3), (4, .int y4), (5, .int y5)] [] μ9 := fun y1 y2 y3 y4 y5 μ9 h => k1 (y1, y2, y3, y4, y5, μ9) h
  have kx : ∀ (y2 : Int32) (y3 : Int32) (y4 : Int32) (μ9 : Mm), bd_X11_waysDecidedBy_22  x1 x2 x3 x4 x5 μ = .inr (y2, y3, y4, μ9) → J E G 4 mX11_waysDecidedBy Q 109 [(0, rf E 0), (2, .int y2), (3, .int y3), (4, .int y4)] [] μ9 := fun y2 y3 y4 μ9 h => k2 (y2, y3, y4, μ9) h
  clear k1 k2
  refine J_iload (dk okX11_waysDecidedBy 16 rfl) 5 rfl ?_
  refine J_aload_n (dk okX11_waysDecidedBy 17 rfl) 0 rfl rfl ?_
  refine J_getR (dk okX11_waysDecidedBy 18 rfl) kfX11_12 ds_0 rfl ?_
  refine J_getI (dk okX11_waysDecidedBy 19 rfl) kfX11_106 ds_1 rfl ?_
  refine J_icmp_ge (tgt := 109) (dk okX11_waysDecidedBy 20 rfl) (by decide) (fun h1 => ?_) (fun h1 => ?_)
  · exact J_sub [0, 2, 3, 4] rfl (kx x2 x3 x4 μ (by unfold bd_X11_waysDecidedBy_22; first | (simp only [if_pos h1]; done) | (simp only [if_pos h1]; rfl) | rfl))
  · have t := t h1
    refine J_aload_n (dk okX11_waysDecidedBy 21 rfl) 0 rfl rfl ?_
    refine J_getR (dk okX11_waysDecidedBy 22 rfl) kfX11_12 ds_0 rfl ?_
    refine J_iload (dk okX11_waysDecidedBy 23 rfl) 5 rfl ?_
    obtain ⟨s2, t⟩ := t
    refine J_callVi (As := [.int x5]) (dk okX11_waysDecidedBy 24 rfl) ds_1 rfl vkX1_load lkX11_285 rfl rfl (Nat.le_of_ble_eq_true rfl) (by decide) (con_X1_load FloorAt_1 s2 ⟨_, rfl, ?_⟩)
    refine J_aload_n (dk okX11_waysDecidedBy 25 rfl) 0 rfl rfl ?_
    refine J_getR (dk okX11_waysDecidedBy 26 rfl) kfX11_12 ds_0 rfl ?_
    refine J_getR (dk okX11_waysDecidedBy 27 rfl) kfX11_151 ds_1 rfl ?_
    refine J_iload (dk okX11_waysDecidedBy 28 rfl) 5 rfl ?_
    obtain ⟨s3, t⟩ := t
    refine J_iald (dk okX11_waysDecidedBy 29 rfl) ds_3 s3 ?_
    refine J_mabs (dk okX11_waysDecidedBy 30 rfl) lkX11_315 mk_abs_s mk_Math mk_abs_c (by decide) (Nat.le_of_ble_eq_true rfl) ?_
    refine J_imul (dk okX11_waysDecidedBy 31 rfl) ?_
    refine J_istore (ls' := [(6, _), (0, _), (1, _), (2, _), (3, _), (4, _), (5, _)]) (dk okX11_waysDecidedBy 32 rfl) (by decide) rfl ?_
    refine J_aload_n (dk okX11_waysDecidedBy 33 rfl) 1 rfl rfl ?_
    refine J_getR (dk okX11_waysDecidedBy 34 rfl) kfX11_53 ds_0 rfl ?_
    refine J_getR (dk okX11_waysDecidedBy 35 rfl) kfX11_291 ds_33 rfl ?_
    refine J_iload (dk okX11_waysDecidedBy 36 rfl) 6 rfl ?_
    refine J_iconst (v := 2) (dk okX11_waysDecidedBy 37 rfl) (by decide) ?_
    refine J_iload (dk okX11_waysDecidedBy 38 rfl) 0 rfl ?_
    refine J_imul (dk okX11_waysDecidedBy 39 rfl) ?_
    have s4 := t
    refine J_iast (dk okX11_waysDecidedBy 40 rfl) ds_34 s4 ?_
    refine J_nm (fun μ5 eμ5 => ?_)
    refine J_iload (dk okX11_waysDecidedBy 41 rfl) 6 rfl ?_
    refine J_iload_n (dk okX11_waysDecidedBy 42 rfl) 2 rfl rfl ?_
    have K8 : J E G 4 mX11_waysDecidedBy Q 103 [(0, rf E 0), (1, .int x1), (2, .int x2), (3, .int (if x5 = x1 then x3 else (if (v_X1_isOff 1 x5 μ5) = 0 then (x3 - ((v_X1_load 1 x5 μ) * (if 0 ≤ (μ.1 3 (Int32.toNatClampNeg x5)) then (μ.1 3 (Int32.toNatClampNeg x5)) else 0 - (μ.1 3 (Int32.toNatClampNeg x5))))) else x3 : Int32) : Int32)), (4, .int (if x5 = x1 then ((v_X1_load 1 x5 μ) * (if 0 ≤ (μ.1 3 (Int32.toNatClampNeg x5)) then (μ.1 3 (Int32.toNatClampNeg x5)) else 0 - (μ.1 3 (Int32.toNatClampNeg x5)))) else x4 : Int32)), (5, .int x5)] [] μ5 := by
      refine J_iinc (v := (x5 + 1)) (ls' := [(5, _), (0, _), (1, _), (2, _), (3, _), (4, _)]) (dk okX11_waysDecidedBy 56 rfl) 5 rfl rfl (by decide) rfl ?_
      refine J_goto (tgt := 22) (dk okX11_waysDecidedBy 57 rfl) (by decide) ?_
      exact J_sub [1, 2, 3, 4, 5, 0] rfl (kb x1 x2 (if x5 = x1 then x3 else (if (v_X1_isOff 1 x5 μ5) = 0 then (x3 - ((v_X1_load 1 x5 μ) * (if 0 ≤ (μ.1 3 (Int32.toNatClampNeg x5)) then (μ.1 3 (Int32.toNatClampNeg x5)) else 0 - (μ.1 3 (Int32.toNatClampNeg x5))))) else x3 : Int32) : Int32) (if x5 = x1 then ((v_X1_load 1 x5 μ) * (if 0 ≤ (μ.1 3 (Int32.toNatClampNeg x5)) then (μ.1 3 (Int32.toNatClampNeg x5)) else 0 - (μ.1 3 (Int32.toNatClampNeg x5)))) else x4 : Int32) (x5 + 1) μ5 (by subst eμ5; unfold bd_X11_waysDecidedBy_22; first | (simp only [if_neg h1]; done) | (simp only [if_neg h1]; rfl) | rfl))
    refine J_icmp_ne (tgt := 86) (dk okX11_waysDecidedBy 43 rfl) (by decide) (fun h6 => ?_) (fun h6 => ?_)
    · refine J_aload_n (dk okX11_waysDecidedBy 47 rfl) 1 rfl rfl ?_
      refine J_getR (dk okX11_waysDecidedBy 48 rfl) kfX11_12 ds_0 rfl ?_
      refine J_iload (dk okX11_waysDecidedBy 49 rfl) 6 rfl ?_
      refine J_callVi (As := [.int x5]) (dk okX11_waysDecidedBy 50 rfl) ds_1 rfl vkX1_isOff lkX11_160 rfl rfl (Nat.le_of_ble_eq_true rfl) (by decide) (con_X1_isOff FloorAt_1 ⟨_, rfl, ?_⟩)
      refine J_if_ne (tgt := 103) (dk okX11_waysDecidedBy 51 rfl) (by decide) (fun h7 => ?_) (fun h7 => ?_)
      · refine J_sub (ls' := [(0, _), (1, _), (2, _), (3, _), (4, _), (5, _)]) [1, 2, 3, 4, 5, 6] rfl ?_
        (try simp only [if_neg h6, if_neg h7] at K8 ⊢); exact K8
      · refine J_iload_n (dk okX11_waysDecidedBy 52 rfl) 4 rfl rfl ?_
        refine J_iload (dk okX11_waysDecidedBy 53 rfl) 0 rfl ?_
        refine J_isub (dk okX11_waysDecidedBy 54 rfl) ?_
        refine J_istore_n (ls' := [(3, _), (6, _), (0, _), (1, _), (2, _), (4, _), (5, _)]) (dk okX11_waysDecidedBy 55 rfl) rfl (by decide) rfl ?_
        refine J_sub (ls' := [(0, _), (1, _), (2, _), (3, _), (4, _), (5, _)]) [2, 3, 4, 0, 5, 6] rfl ?_
        (try simp only [if_neg h6, if_pos h7] at K8 ⊢); exact K8
    · refine J_iload (dk okX11_waysDecidedBy 44 rfl) 0 rfl ?_
      refine J_istore (ls' := [(4, _), (6, _), (0, _), (1, _), (2, _), (3, _), (5, _)]) (dk okX11_waysDecidedBy 45 rfl) (by decide) rfl ?_
      refine J_goto (tgt := 103) (dk okX11_waysDecidedBy 46 rfl) (by decide) ?_
      refine J_sub (ls' := [(0, _), (1, _), (2, _), (3, _), (4, _), (5, _)]) [2, 3, 4, 5, 0, 6] rfl ?_
      (try simp only [if_pos h6] at K8 ⊢); exact K8
/-- VotingFloor.waysDecidedBy(I)I -/
noncomputable def v_X11_waysDecidedBy (p0 : Int32) (μ : Mm) : Int32 := (let r2 : Int32 × Int32 × Int32 × Mm := whl (fun s : Int32 × Int32 × Int32 × Int32 × Int32 × Mm => bd_X11_waysDecidedBy_22  s.1 s.2.1 s.2.2.1 s.2.2.2.1 s.2.2.2.2.1 s.2.2.2.2.2) (fun s : Int32 × Int32 × Int32 × Int32 × Int32 × Mm => (0, 0, 0, s.2.2.2.2.2)) FU (p0, ((v_X1_present 1 μ) &&& ((1 <<< (p0 &&& 31)) ^^^ (-1))), 0, 0, 0, μ); (let μ3 : Mm := (e_X8_start (r2.1) (r2.2.1) (r2.2.2.2)); (v_X8_waysWithin (r2.2.2.1) μ3)))
noncomputable def e_X11_waysDecidedBy (p0 : Int32) (μ : Mm) : Mm := (let r2 : Int32 × Int32 × Int32 × Mm := whl (fun s : Int32 × Int32 × Int32 × Int32 × Int32 × Mm => bd_X11_waysDecidedBy_22  s.1 s.2.1 s.2.2.1 s.2.2.2.1 s.2.2.2.2.1 s.2.2.2.2.2) (fun s : Int32 × Int32 × Int32 × Int32 × Int32 × Mm => (0, 0, 0, s.2.2.2.2.2)) FU (p0, ((v_X1_present 1 μ) &&& ((1 <<< (p0 &&& 31)) ^^^ (-1))), 0, 0, 0, μ); (let μ3 : Mm := (e_X8_start (r2.1) (r2.2.1) (r2.2.2.2)); μ3))
def p_X11_waysDecidedBy (p0 : Int32)  (μ : Mm) : Prop := (whP (fun s : Int32 × Int32 × Int32 × Int32 × Int32 × Mm => bd_X11_waysDecidedBy_22  s.1 s.2.1 s.2.2.1 s.2.2.2.1 s.2.2.2.2.1 s.2.2.2.2.2) (fun s : Int32 × Int32 × Int32 × Int32 × Int32 × Mm => sd_X11_waysDecidedBy_22   s.1 s.2.1 s.2.2.1 s.2.2.2.1 s.2.2.2.2.1 s.2.2.2.2.2) FU (p0, ((v_X1_present 1 μ) &&& ((1 <<< (p0 &&& 31)) ^^^ (-1))), 0, 0, 0, μ)) ∧ (∀ r2 : Int32 × Int32 × Int32 × Mm, r2 = whl (fun s : Int32 × Int32 × Int32 × Int32 × Int32 × Mm => bd_X11_waysDecidedBy_22  s.1 s.2.1 s.2.2.1 s.2.2.2.1 s.2.2.2.2.1 s.2.2.2.2.2) (fun s : Int32 × Int32 × Int32 × Int32 × Int32 × Mm => (0, 0, 0, s.2.2.2.2.2)) FU (p0, ((v_X1_present 1 μ) &&& ((1 <<< (p0 &&& 31)) ^^^ (-1))), 0, 0, 0, μ) → (∀ μ3 : Mm, μ3 = (e_X8_start (r2.1) (r2.2.1) (r2.2.2.2)) → p_X8_waysWithin (r2.2.2.1) μ3))
set_option maxRecDepth 20000 in
set_option maxHeartbeats 4000000 in
theorem con_X11_waysDecidedBy {E : Ex} {Q : Option Value → Mm → Prop} {p0 : Int32} {μ : Mm} (t : p_X11_waysDecidedBy p0  μ) (k : Q (some (.int (v_X11_waysDecidedBy p0 μ))) (e_X11_waysDecidedBy p0 μ)) : Con E 4 mX11_waysDecidedBy [rf E 0, .int p0] μ Q := by
  refine Con_J (by decide +kernel) (Nat.le_of_ble_eq_true rfl) (fun G => ?_)
  unfold v_X11_waysDecidedBy e_X11_waysDecidedBy at k
  unfold p_X11_waysDecidedBy at t
  refine J_sub (ls' := [(0, rf E 0), (1, .int p0)]) [0, 1] rfl ?_
  refine J_aload_n (dk okX11_waysDecidedBy 0 rfl) 0 rfl rfl ?_
  refine J_getR (dk okX11_waysDecidedBy 1 rfl) kfX11_12 ds_0 rfl ?_
  refine J_callVi (As := []) (dk okX11_waysDecidedBy 2 rfl) ds_1 rfl vkX1_present lkX11_271 rfl rfl (Nat.le_of_ble_eq_true rfl) (by decide) (con_X1_present FloorAt_1 ⟨_, rfl, ?_⟩)
  refine J_iconst (v := 1) (dk okX11_waysDecidedBy 3 rfl) (by decide) ?_
  refine J_iload_n (dk okX11_waysDecidedBy 4 rfl) 1 rfl rfl ?_
  refine J_ishl (dk okX11_waysDecidedBy 5 rfl) ?_
  refine J_iconst (v := (-1)) (dk okX11_waysDecidedBy 6 rfl) (by decide) ?_
  refine J_ixor (dk okX11_waysDecidedBy 7 rfl) ?_
  refine J_iand (dk okX11_waysDecidedBy 8 rfl) ?_
  refine J_istore_n (ls' := [(2, _), (0, _), (1, _)]) (dk okX11_waysDecidedBy 9 rfl) rfl (by decide) rfl ?_
  refine J_iconst (v := 0) (dk okX11_waysDecidedBy 10 rfl) (by decide) ?_
  refine J_istore_n (ls' := [(3, _), (2, _), (0, _), (1, _)]) (dk okX11_waysDecidedBy 11 rfl) rfl (by decide) rfl ?_
  refine J_iconst (v := 0) (dk okX11_waysDecidedBy 12 rfl) (by decide) ?_
  refine J_istore (ls' := [(4, _), (3, _), (2, _), (0, _), (1, _)]) (dk okX11_waysDecidedBy 13 rfl) (by decide) rfl ?_
  refine J_iconst (v := 0) (dk okX11_waysDecidedBy 14 rfl) (by decide) ?_
  refine J_istore (ls' := [(5, _), (4, _), (3, _), (2, _), (0, _), (1, _)]) (dk okX11_waysDecidedBy 15 rfl) (by decide) rfl ?_
  obtain ⟨s1, t⟩ := t
  refine J_sub (ls' := [(0, _), (1, _), (2, _), (3, _), (4, _), (5, _)]) [4, 5, 3, 2, 1, 0] rfl ?_
  refine lw_X11_waysDecidedBy_22  s1 (fun r2 er2 => ?_)
  have t := t r2 er2
  refine J_aload_n (dk okX11_waysDecidedBy 58 rfl) 0 rfl rfl ?_
  refine J_getR (dk okX11_waysDecidedBy 59 rfl) kfX11_53 ds_0 rfl ?_
  refine J_iload_n (dk okX11_waysDecidedBy 60 rfl) 1 rfl rfl ?_
  refine J_iload_n (dk okX11_waysDecidedBy 61 rfl) 2 rfl rfl ?_
  refine J_callVv (As := [.int (r2.1), .int (r2.2.1)]) (dk okX11_waysDecidedBy 62 rfl) ds_33 rfl vkX8_start lkX11_288 rfl rfl (Nat.le_of_ble_eq_true rfl) (by decide) (con_X8_start  ⟨rfl, ?_⟩)
  refine J_nm (fun μ3 eμ3 => ?_)
  have t := t μ3 eμ3
  refine J_aload_n (dk okX11_waysDecidedBy 63 rfl) 0 rfl rfl ?_
  refine J_getR (dk okX11_waysDecidedBy 64 rfl) kfX11_53 ds_0 rfl ?_
  refine J_iload (dk okX11_waysDecidedBy 65 rfl) 3 rfl ?_
  have s4 := t
  refine J_callVi (As := [.int (r2.2.2.1)]) (dk okX11_waysDecidedBy 66 rfl) ds_33 rfl vkX8_waysWithin lkX11_318 rfl rfl (Nat.le_of_ble_eq_true rfl) (by decide) (con_X8_waysWithin s4 ⟨_, rfl, ?_⟩)
  subst eμ3 er2
  exact J_iret (dk okX11_waysDecidedBy 67 rfl) rfl k
noncomputable def bd_X12_asks_55  (μ : Mm) (x1 : Int32) (x2 : Int32) (x3 : Int32) (x4 : Int32) (x5 : Int32) (x6 : Int32) (x7 : Int32) : (Int32 × Int32 × Int32 × Int32 × Int32 × Int32 × Int32) ⊕ (Int32 × Int32 × Int32 × Int32 × Int32 × Int32) := (if (μ.1 49 3) ≤ x7 then .inr (x1, x2, x3, x4, x5, x6) else .inl (x1, x2, x3, x4, x5, (x6 + (v_X12_flag (if (v_X12_has x1 x7) = 0 then 0 else (if (v_X12_isSo x7 x4 x5 μ) = 0 then 0 else 1 : Int32) : Int32))), (x7 + 1)))
def sd_X12_asks_55   (μ : Mm) (x1 : Int32) (x2 : Int32) (x3 : Int32) (x4 : Int32) (x5 : Int32) (x6 : Int32) (x7 : Int32) : Prop := (¬ ((μ.1 49 3) ≤ x7) → (¬ ((v_X12_has x1 x7) = 0) → p_X12_isSo x7 x4 x5))
set_option maxRecDepth 20000 in
set_option maxHeartbeats 4000000 in
theorem lw_X12_asks_55 {E : Ex} {G : Gx} {Q : Option Value → Mm → Prop} {x1 : Int32} {x2 : Int32} {x3 : Int32} {x4 : Int32} {x5 : Int32} {x6 : Int32} {x7 : Int32} {μ : Mm}  (p : whP (fun s : Int32 × Int32 × Int32 × Int32 × Int32 × Int32 × Int32 => bd_X12_asks_55  μ s.1 s.2.1 s.2.2.1 s.2.2.2.1 s.2.2.2.2.1 s.2.2.2.2.2.1 s.2.2.2.2.2.2) (fun s : Int32 × Int32 × Int32 × Int32 × Int32 × Int32 × Int32 => sd_X12_asks_55   μ s.1 s.2.1 s.2.2.1 s.2.2.2.1 s.2.2.2.2.1 s.2.2.2.2.2.1 s.2.2.2.2.2.2) FU (x1, x2, x3, x4, x5, x6, x7)) (k : ∀ r : Int32 × Int32 × Int32 × Int32 × Int32 × Int32, r = whl (fun s : Int32 × Int32 × Int32 × Int32 × Int32 × Int32 × Int32 => bd_X12_asks_55  μ s.1 s.2.1 s.2.2.1 s.2.2.2.1 s.2.2.2.2.1 s.2.2.2.2.2.1 s.2.2.2.2.2.2) (fun _ : Int32 × Int32 × Int32 × Int32 × Int32 × Int32 × Int32 => (0, 0, 0, 0, 0, 0)) FU (x1, x2, x3, x4, x5, x6, x7) → J E G 4 mX12_asks Q 105 [(0, rf E 49), (1, .int (r.1)), (2, .int (r.2.1)), (3, .int (r.2.2.1)), (4, .int (r.2.2.2.1)), (5, .int (r.2.2.2.2.1)), (6, .int (r.2.2.2.2.2))] [] μ) : J E G 4 mX12_asks Q 55 [(0, rf E 49), (1, .int x1), (2, .int x2), (3, .int x3), (4, .int x4), (5, .int x5), (6, .int x6), (7, .int x7)] [] μ := by
  refine J_whl (f := (fun s : Int32 × Int32 × Int32 × Int32 × Int32 × Int32 × Int32 => bd_X12_asks_55  μ s.1 s.2.1 s.2.2.1 s.2.2.2.1 s.2.2.2.2.1 s.2.2.2.2.2.1 s.2.2.2.2.2.2)) (dd := (fun _ : Int32 × Int32 × Int32 × Int32 × Int32 × Int32 × Int32 => (0, 0, 0, 0, 0, 0))) (sd := (fun s : Int32 × Int32 × Int32 × Int32 × Int32 × Int32 × Int32 => sd_X12_asks_55   μ s.1 s.2.1 s.2.2.1 s.2.2.2.1 s.2.2.2.2.1 s.2.2.2.2.2.1 s.2.2.2.2.2.2)) (P := fun s : Int32 × Int32 × Int32 × Int32 × Int32 × Int32 × Int32 => J E G 4 mX12_asks Q 55 [(0, rf E 49), (1, .int (s.1)), (2, .int (s.2.1)), (3, .int (s.2.2.1)), (4, .int (s.2.2.2.1)), (5, .int (s.2.2.2.2.1)), (6, .int (s.2.2.2.2.2.1)), (7, .int (s.2.2.2.2.2.2))] [] (μ)) (R := fun r : Int32 × Int32 × Int32 × Int32 × Int32 × Int32 => J E G 4 mX12_asks Q 105 [(0, rf E 49), (1, .int (r.1)), (2, .int (r.2.1)), (3, .int (r.2.2.1)), (4, .int (r.2.2.2.1)), (5, .int (r.2.2.2.2.1)), (6, .int (r.2.2.2.2.2))] [] μ) ?_ FU (x1, x2, x3, x4, x5, x6, x7) p (k _ rfl)
  clear p k
  rintro ⟨x1, x2, x3, x4, x5, x6, x7⟩ t k1 k2
  dsimp only [sd_X12_asks_55] at t
  have kb : ∀ (y1 : Int32) (y2 : Int32) (y3 : Int32) (y4 : Int32) (y5 : Int32) (y6 : Int32) (y7 : Int32) , bd_X12_asks_55  μ x1 x2 x3 x4 x5 x6 x7 = .inl (y1, y2, y3, y4, y5, y6, y7) → J E G 4 mX12_asks Q 55 [(0, rf E 49), (1, .int y1), (2, .int y2), (3, .int y3), (4, .int y4), (5, .int y5), (6, .int y6), (7, .int y7)] [] μ := fun y1 y2 y3 y4 y5 y6 y7  h => k1 (y1, y2, y3, y4, y5, y6, y7) h
  have kx : ∀ (y1 : Int32) (y2 : Int32) (y3 : Int32) (y4 : Int32) (y5 : Int32) (y6 : Int32) , bd_X12_asks_55  μ x1 x2 x3 x4 x5 x6 x7 = .inr (y1, y2, y3, y4, y5, y6) → J E G 4 mX12_asks Q 105 [(0, rf E 49), (1, .int y1), (2, .int y2), (3, .int y3), (4, .int y4), (5, .int y5), (6, .int y6)] [] μ := fun y1 y2 y3 y4 y5 y6  h => k2 (y1, y2, y3, y4, y5, y6) h
  clear k1 k2
  refine J_iload (dk okX12_asks 30 rfl) 7 rfl ?_
  refine J_aload_n (dk okX12_asks 31 rfl) 0 rfl rfl ?_
  refine J_getI (dk okX12_asks 32 rfl) kfX12_111 ds_49 rfl ?_
  refine J_icmp_ge (tgt := 105) (dk okX12_asks 33 rfl) (by decide) (fun h1 => ?_) (fun h1 => ?_)
  · exact J_sub [0, 1, 2, 3, 4, 5, 6] rfl (kx x1 x2 x3 x4 x5 x6 (by unfold bd_X12_asks_55; first | (simp only [if_pos h1]; done) | (simp only [if_pos h1]; rfl) | rfl))
  · have t := t h1
    refine J_iload (dk okX12_asks 34 rfl) 6 rfl ?_
    refine J_iload_n (dk okX12_asks 35 rfl) 1 rfl rfl ?_
    refine J_iload (dk okX12_asks 36 rfl) 7 rfl ?_
    refine J_callSi (As := [.int x1, .int x7]) (dk okX12_asks 37 rfl) skX12_has lkX12_126 rfl rfl (Nat.le_of_ble_eq_true rfl) (by decide) (con_X12_has  ⟨_, rfl, ?_⟩)
    have K5 : J E G 4 mX12_asks Q 93 [(0, rf E 49), (1, .int x1), (2, .int x2), (3, .int x3), (4, .int x4), (5, .int x5), (7, .int x7)] [.int (if (v_X12_has x1 x7) = 0 then 0 else (if (v_X12_isSo x7 x4 x5 μ) = 0 then 0 else 1 : Int32) : Int32), .int x6] μ := by
      refine J_callSi (As := [.int (if (v_X12_has x1 x7) = 0 then 0 else (if (v_X12_isSo x7 x4 x5 μ) = 0 then 0 else 1 : Int32) : Int32)]) (dk okX12_asks 48 rfl) skX12_flag lkX12_137 rfl rfl (Nat.le_of_ble_eq_true rfl) (by decide) (con_X12_flag  ⟨_, rfl, ?_⟩)
      refine J_iadd (dk okX12_asks 49 rfl) ?_
      refine J_istore (ls' := [(6, _), (0, _), (1, _), (2, _), (3, _), (4, _), (5, _), (7, _)]) (dk okX12_asks 50 rfl) (by decide) rfl ?_
      refine J_iinc (v := (x7 + 1)) (ls' := [(7, _), (6, _), (0, _), (1, _), (2, _), (3, _), (4, _), (5, _)]) (dk okX12_asks 51 rfl) 7 rfl rfl (by decide) rfl ?_
      refine J_goto (tgt := 55) (dk okX12_asks 52 rfl) (by decide) ?_
      exact J_sub [2, 3, 4, 5, 6, 7, 1, 0] rfl (kb x1 x2 x3 x4 x5 (x6 + (v_X12_flag (if (v_X12_has x1 x7) = 0 then 0 else (if (v_X12_isSo x7 x4 x5 μ) = 0 then 0 else 1 : Int32) : Int32))) (x7 + 1) (by unfold bd_X12_asks_55; first | (simp only [if_neg h1]; done) | (simp only [if_neg h1]; rfl) | rfl))
    refine J_if_eq (tgt := 92) (dk okX12_asks 38 rfl) (by decide) (fun h2 => ?_) (fun h2 => ?_)
    · refine J_iconst (v := 0) (dk okX12_asks 47 rfl) (by decide) ?_
      refine J_sub (ls' := [(0, _), (1, _), (2, _), (3, _), (4, _), (5, _), (7, _)]) [0, 1, 2, 3, 4, 5, 7] rfl ?_
      (try simp only [if_pos h2] at K5 ⊢); exact K5
    · have t := t h2
      refine J_aload_n (dk okX12_asks 39 rfl) 0 rfl rfl ?_
      refine J_iload (dk okX12_asks 40 rfl) 7 rfl ?_
      refine J_iload (dk okX12_asks 41 rfl) 4 rfl ?_
      refine J_iload (dk okX12_asks 42 rfl) 5 rfl ?_
      have s3 := t
      refine J_callVi (As := [.int x7, .int x4, .int x5]) (dk okX12_asks 43 rfl) ds_49 rfl vkX12_isSo lkX12_421 rfl rfl (Nat.le_of_ble_eq_true rfl) (by decide) (con_X12_isSo s3 ⟨_, rfl, ?_⟩)
      refine J_if_eq (tgt := 92) (dk okX12_asks 44 rfl) (by decide) (fun h4 => ?_) (fun h4 => ?_)
      · refine J_iconst (v := 0) (dk okX12_asks 47 rfl) (by decide) ?_
        refine J_sub (ls' := [(0, _), (1, _), (2, _), (3, _), (4, _), (5, _), (7, _)]) [0, 1, 2, 3, 4, 5, 7] rfl ?_
        (try simp only [if_neg h2, if_pos h4] at K5 ⊢); exact K5
      · refine J_iconst (v := 1) (dk okX12_asks 45 rfl) (by decide) ?_
        refine J_goto (tgt := 93) (dk okX12_asks 46 rfl) (by decide) ?_
        refine J_sub (ls' := [(0, _), (1, _), (2, _), (3, _), (4, _), (5, _), (7, _)]) [0, 1, 2, 3, 4, 5, 7] rfl ?_
        (try simp only [if_neg h2, if_neg h4] at K5 ⊢); exact K5
noncomputable def bd_X12_asks_39  (μ : Mm) (x1 : Int32) (x2 : Int32) (x3 : Int32) (x4 : Int32) (x5 : Int32) : (Int32 × Int32 × Int32 × Int32 × Int32) ⊕ (Int32 × Int32 × Int32 × Int32) := (if (v_X12_highest x4) < x5 then .inr (x1, x2, x3, x4) else (let r3 : Int32 × Int32 × Int32 × Int32 × Int32 × Int32 := whl (fun s : Int32 × Int32 × Int32 × Int32 × Int32 × Int32 × Int32 => bd_X12_asks_55  μ s.1 s.2.1 s.2.2.1 s.2.2.2.1 s.2.2.2.2.1 s.2.2.2.2.2.1 s.2.2.2.2.2.2) (fun _ : Int32 × Int32 × Int32 × Int32 × Int32 × Int32 × Int32 => (0, 0, 0, 0, 0, 0)) FU (x1, x2, x3, x4, x5, 0, 0); .inl ((r3.1), (if (r3.2.2.1) ≤ (if (r3.2.2.2.2.2) < ((v_J6_bitCount_0f7a4 (r3.1)) - (r3.2.2.2.2.2)) then ((v_J6_bitCount_0f7a4 (r3.1)) - (r3.2.2.2.2.2)) else (r3.2.2.2.2.2)) then (r3.2.1) else ((20 * (r3.2.2.2.1)) + (r3.2.2.2.2.1)) : Int32), (if (if (r3.2.2.2.2.2) < ((v_J6_bitCount_0f7a4 (r3.1)) - (r3.2.2.2.2.2)) then ((v_J6_bitCount_0f7a4 (r3.1)) - (r3.2.2.2.2.2)) else (r3.2.2.2.2.2)) < (r3.2.2.1) then (if (r3.2.2.2.2.2) < ((v_J6_bitCount_0f7a4 (r3.1)) - (r3.2.2.2.2.2)) then ((v_J6_bitCount_0f7a4 (r3.1)) - (r3.2.2.2.2.2)) else (r3.2.2.2.2.2)) else (r3.2.2.1)), (r3.2.2.2.1), ((r3.2.2.2.2.1) + 1))))
def sd_X12_asks_39   (μ : Mm) (x1 : Int32) (x2 : Int32) (x3 : Int32) (x4 : Int32) (x5 : Int32) : Prop := (¬ ((v_X12_highest x4) < x5) → whP (fun s : Int32 × Int32 × Int32 × Int32 × Int32 × Int32 × Int32 => bd_X12_asks_55  μ s.1 s.2.1 s.2.2.1 s.2.2.2.1 s.2.2.2.2.1 s.2.2.2.2.2.1 s.2.2.2.2.2.2) (fun s : Int32 × Int32 × Int32 × Int32 × Int32 × Int32 × Int32 => sd_X12_asks_55   μ s.1 s.2.1 s.2.2.1 s.2.2.2.1 s.2.2.2.2.1 s.2.2.2.2.2.1 s.2.2.2.2.2.2) FU (x1, x2, x3, x4, x5, 0, 0))
set_option maxRecDepth 20000 in
set_option maxHeartbeats 4000000 in
theorem lw_X12_asks_39 {E : Ex} {G : Gx} {Q : Option Value → Mm → Prop} {x1 : Int32} {x2 : Int32} {x3 : Int32} {x4 : Int32} {x5 : Int32} {μ : Mm}  (p : whP (fun s : Int32 × Int32 × Int32 × Int32 × Int32 => bd_X12_asks_39  μ s.1 s.2.1 s.2.2.1 s.2.2.2.1 s.2.2.2.2) (fun s : Int32 × Int32 × Int32 × Int32 × Int32 => sd_X12_asks_39   μ s.1 s.2.1 s.2.2.1 s.2.2.2.1 s.2.2.2.2) FU (x1, x2, x3, x4, x5)) (k : ∀ r : Int32 × Int32 × Int32 × Int32, r = whl (fun s : Int32 × Int32 × Int32 × Int32 × Int32 => bd_X12_asks_39  μ s.1 s.2.1 s.2.2.1 s.2.2.2.1 s.2.2.2.2) (fun _ : Int32 × Int32 × Int32 × Int32 × Int32 => (0, 0, 0, 0)) FU (x1, x2, x3, x4, x5) → J E G 4 mX12_asks Q 151 [(0, rf E 49), (1, .int (r.1)), (2, .int (r.2.1)), (3, .int (r.2.2.1)), (4, .int (r.2.2.2))] [] μ) : J E G 4 mX12_asks Q 39 [(0, rf E 49), (1, .int x1), (2, .int x2), (3, .int x3), (4, .int x4), (5, .int x5)] [] μ := by
  refine J_whl (f := (fun s : Int32 × Int32 × Int32 × Int32 × Int32 => bd_X12_asks_39  μ s.1 s.2.1 s.2.2.1 s.2.2.2.1 s.2.2.2.2)) (dd := (fun _ : Int32 × Int32 × Int32 × Int32 × Int32 => (0, 0, 0, 0))) (sd := (fun s : Int32 × Int32 × Int32 × Int32 × Int32 => sd_X12_asks_39   μ s.1 s.2.1 s.2.2.1 s.2.2.2.1 s.2.2.2.2)) (P := fun s : Int32 × Int32 × Int32 × Int32 × Int32 => J E G 4 mX12_asks Q 39 [(0, rf E 49), (1, .int (s.1)), (2, .int (s.2.1)), (3, .int (s.2.2.1)), (4, .int (s.2.2.2.1)), (5, .int (s.2.2.2.2))] [] (μ)) (R := fun r : Int32 × Int32 × Int32 × Int32 => J E G 4 mX12_asks Q 151 [(0, rf E 49), (1, .int (r.1)), (2, .int (r.2.1)), (3, .int (r.2.2.1)), (4, .int (r.2.2.2))] [] μ) ?_ FU (x1, x2, x3, x4, x5) p (k _ rfl)
  clear p k
  rintro ⟨x1, x2, x3, x4, x5⟩ t k1 k2
  dsimp only [sd_X12_asks_39] at t
  have kb : ∀ (y1 : Int32) (y2 : Int32) (y3 : Int32) (y4 : Int32) (y5 : Int32) , bd_X12_asks_39  μ x1 x2 x3 x4 x5 = .inl (y1, y2, y3, y4, y5) → J E G 4 mX12_asks Q 39 [(0, rf E 49), (1, .int y1), (2, .int y2), (3, .int y3), (4, .int y4), (5, .int y5)] [] μ := fun y1 y2 y3 y4 y5  h => k1 (y1, y2, y3, y4, y5) h
  have kx : ∀ (y1 : Int32) (y2 : Int32) (y3 : Int32) (y4 : Int32) , bd_X12_asks_39  μ x1 x2 x3 x4 x5 = .inr (y1, y2, y3, y4) → J E G 4 mX12_asks Q 151 [(0, rf E 49), (1, .int y1), (2, .int y2), (3, .int y3), (4, .int y4)] [] μ := fun y1 y2 y3 y4  h => k2 (y1, y2, y3, y4) h
  clear k1 k2
  refine J_iload (dk okX12_asks 22 rfl) 5 rfl ?_
  refine J_iload (dk okX12_asks 23 rfl) 4 rfl ?_
  refine J_callSi (As := [.int x4]) (dk okX12_asks 24 rfl) skX12_highest lkX12_415 rfl rfl (Nat.le_of_ble_eq_true rfl) (by decide) (con_X12_highest  ⟨_, rfl, ?_⟩)
  refine J_icmp_gt (tgt := 151) (dk okX12_asks 25 rfl) (by decide) (fun h1 => ?_) (fun h1 => ?_)
  · exact J_sub [0, 1, 2, 3, 4] rfl (kx x1 x2 x3 x4 (by unfold bd_X12_asks_39; first | (simp only [if_pos h1]; done) | (simp only [if_pos h1]; rfl) | rfl))
  · have t := t h1
    refine J_iconst (v := 0) (dk okX12_asks 26 rfl) (by decide) ?_
    refine J_istore (ls' := [(6, _), (0, _), (1, _), (2, _), (3, _), (4, _), (5, _)]) (dk okX12_asks 27 rfl) (by decide) rfl ?_
    refine J_iconst (v := 0) (dk okX12_asks 28 rfl) (by decide) ?_
    refine J_istore (ls' := [(7, _), (6, _), (0, _), (1, _), (2, _), (3, _), (4, _), (5, _)]) (dk okX12_asks 29 rfl) (by decide) rfl ?_
    have s2 := t
    refine J_sub (ls' := [(0, _), (1, _), (2, _), (3, _), (4, _), (5, _), (6, _), (7, _)]) [2, 3, 4, 5, 6, 7, 1, 0] rfl ?_
    refine lw_X12_asks_55  s2 (fun r3 er3 => ?_)
    refine J_iload (dk okX12_asks 53 rfl) 6 rfl ?_
    refine J_iload_n (dk okX12_asks 54 rfl) 1 rfl rfl ?_
    refine J_callSi (As := [.int (r3.1)]) (dk okX12_asks 55 rfl) skJ6_bitCount_0f7a4 lkX12_299 rfl rfl (Nat.le_of_ble_eq_true rfl) (by decide) (con_J6_bitCount_0f7a4  ⟨_, rfl, ?_⟩)
    refine J_iload (dk okX12_asks 56 rfl) 6 rfl ?_
    refine J_isub (dk okX12_asks 57 rfl) ?_
    refine J_mmax (dk okX12_asks 58 rfl) lkX12_284 mk_max_s mk_Math mk_max_c (by decide) (Nat.le_of_ble_eq_true rfl) ?_
    refine J_istore (ls' := [(7, _), (0, _), (1, _), (2, _), (3, _), (4, _), (5, _), (6, _)]) (dk okX12_asks 59 rfl) (by decide) rfl ?_
    refine J_iload (dk okX12_asks 60 rfl) 0 rfl ?_
    refine J_iload_n (dk okX12_asks 61 rfl) 4 rfl rfl ?_
    have K5 : J E G 4 mX12_asks Q 137 [(0, rf E 49), (1, .int (r3.1)), (3, .int (r3.2.2.1)), (4, .int (r3.2.2.2.1)), (5, .int (r3.2.2.2.2.1)), (7, .int (if (r3.2.2.2.2.2) < ((v_J6_bitCount_0f7a4 (r3.1)) - (r3.2.2.2.2.2)) then ((v_J6_bitCount_0f7a4 (r3.1)) - (r3.2.2.2.2.2)) else (r3.2.2.2.2.2)))] [.int (if (r3.2.2.1) ≤ (if (r3.2.2.2.2.2) < ((v_J6_bitCount_0f7a4 (r3.1)) - (r3.2.2.2.2.2)) then ((v_J6_bitCount_0f7a4 (r3.1)) - (r3.2.2.2.2.2)) else (r3.2.2.2.2.2)) then (r3.2.1) else ((20 * (r3.2.2.2.1)) + (r3.2.2.2.2.1)) : Int32)] μ := by
      refine J_istore_n (ls' := [(2, _), (0, _), (1, _), (3, _), (4, _), (5, _), (7, _)]) (dk okX12_asks 70 rfl) rfl (by decide) rfl ?_
      refine J_iload_n (dk okX12_asks 71 rfl) 3 rfl rfl ?_
      refine J_iload (dk okX12_asks 72 rfl) 6 rfl ?_
      refine J_mmin (dk okX12_asks 73 rfl) lkX12_150 mk_min_s mk_Math mk_min_c (by decide) (Nat.le_of_ble_eq_true rfl) ?_
      refine J_istore_n (ls' := [(3, _), (2, _), (0, _), (1, _), (4, _), (5, _), (7, _)]) (dk okX12_asks 74 rfl) rfl (by decide) rfl ?_
      refine J_iinc (v := ((r3.2.2.2.2.1) + 1)) (ls' := [(5, _), (3, _), (2, _), (0, _), (1, _), (4, _), (7, _)]) (dk okX12_asks 75 rfl) 5 rfl rfl (by decide) rfl ?_
      refine J_goto (tgt := 39) (dk okX12_asks 76 rfl) (by decide) ?_
      exact J_sub [3, 4, 2, 1, 5, 0] rfl (kb (r3.1) (if (r3.2.2.1) ≤ (if (r3.2.2.2.2.2) < ((v_J6_bitCount_0f7a4 (r3.1)) - (r3.2.2.2.2.2)) then ((v_J6_bitCount_0f7a4 (r3.1)) - (r3.2.2.2.2.2)) else (r3.2.2.2.2.2)) then (r3.2.1) else ((20 * (r3.2.2.2.1)) + (r3.2.2.2.2.1)) : Int32) (if (if (r3.2.2.2.2.2) < ((v_J6_bitCount_0f7a4 (r3.1)) - (r3.2.2.2.2.2)) then ((v_J6_bitCount_0f7a4 (r3.1)) - (r3.2.2.2.2.2)) else (r3.2.2.2.2.2)) < (r3.2.2.1) then (if (r3.2.2.2.2.2) < ((v_J6_bitCount_0f7a4 (r3.1)) - (r3.2.2.2.2.2)) then ((v_J6_bitCount_0f7a4 (r3.1)) - (r3.2.2.2.2.2)) else (r3.2.2.2.2.2)) else (r3.2.2.1)) (r3.2.2.2.1) ((r3.2.2.2.2.1) + 1) (by subst er3; unfold bd_X12_asks_39; first | (simp only [if_neg h1]; done) | (simp only [if_neg h1]; rfl) | rfl))
    refine J_icmp_ge (tgt := 136) (dk okX12_asks 62 rfl) (by decide) (fun h4 => ?_) (fun h4 => ?_)
    · refine J_iload_n (dk okX12_asks 69 rfl) 3 rfl rfl ?_
      refine J_sub (ls' := [(0, _), (1, _), (3, _), (4, _), (5, _), (7, _)]) [1, 2, 4, 5, 6, 0] rfl ?_
      (try simp only [if_pos h4] at K5 ⊢); exact K5
    · refine J_bipush (v := 20) (dk okX12_asks 63 rfl) (by decide) ?_
      refine J_iload (dk okX12_asks 64 rfl) 5 rfl ?_
      refine J_imul (dk okX12_asks 65 rfl) ?_
      refine J_iload (dk okX12_asks 66 rfl) 6 rfl ?_
      refine J_iadd (dk okX12_asks 67 rfl) ?_
      refine J_goto (tgt := 137) (dk okX12_asks 68 rfl) (by decide) ?_
      refine J_sub (ls' := [(0, _), (1, _), (3, _), (4, _), (5, _), (7, _)]) [1, 2, 4, 5, 6, 0] rfl ?_
      (try simp only [if_neg h4] at K5 ⊢); exact K5
noncomputable def bd_X12_asks_26  (μ : Mm) (x1 : Int32) (x2 : Int32) (x3 : Int32) (x4 : Int32) : (Int32 × Int32 × Int32 × Int32) ⊕ (Int32 × Int32) := (if 5 ≤ x4 then .inr (x2, x3) else (let r3 : Int32 × Int32 × Int32 × Int32 := whl (fun s : Int32 × Int32 × Int32 × Int32 × Int32 => bd_X12_asks_39  μ s.1 s.2.1 s.2.2.1 s.2.2.2.1 s.2.2.2.2) (fun _ : Int32 × Int32 × Int32 × Int32 × Int32 => (0, 0, 0, 0)) FU (x1, x2, x3, x4, (v_X12_lowest x4)); .inl ((r3.1), (r3.2.1), (r3.2.2.1), ((r3.2.2.2) + 1))))
def sd_X12_asks_26   (μ : Mm) (x1 : Int32) (x2 : Int32) (x3 : Int32) (x4 : Int32) : Prop := (¬ (5 ≤ x4) → whP (fun s : Int32 × Int32 × Int32 × Int32 × Int32 => bd_X12_asks_39  μ s.1 s.2.1 s.2.2.1 s.2.2.2.1 s.2.2.2.2) (fun s : Int32 × Int32 × Int32 × Int32 × Int32 => sd_X12_asks_39   μ s.1 s.2.1 s.2.2.1 s.2.2.2.1 s.2.2.2.2) FU (x1, x2, x3, x4, (v_X12_lowest x4)))
set_option maxRecDepth 20000 in
set_option maxHeartbeats 4000000 in
theorem lw_X12_asks_26 {E : Ex} {G : Gx} {Q : Option Value → Mm → Prop} {x1 : Int32} {x2 : Int32} {x3 : Int32} {x4 : Int32} {μ : Mm}  (p : whP (fun s : Int32 × Int32 × Int32 × Int32 => bd_X12_asks_26  μ s.1 s.2.1 s.2.2.1 s.2.2.2) (fun s : Int32 × Int32 × Int32 × Int32 => sd_X12_asks_26   μ s.1 s.2.1 s.2.2.1 s.2.2.2) FU (x1, x2, x3, x4)) (k : ∀ r : Int32 × Int32, r = whl (fun s : Int32 × Int32 × Int32 × Int32 => bd_X12_asks_26  μ s.1 s.2.1 s.2.2.1 s.2.2.2) (fun _ : Int32 × Int32 × Int32 × Int32 => (0, 0)) FU (x1, x2, x3, x4) → J E G 4 mX12_asks Q 157 [(0, rf E 49), (2, .int (r.1)), (3, .int (r.2))] [] μ) : J E G 4 mX12_asks Q 26 [(0, rf E 49), (1, .int x1), (2, .int x2), (3, .int x3), (4, .int x4)] [] μ := by
  refine J_whl (f := (fun s : Int32 × Int32 × Int32 × Int32 => bd_X12_asks_26  μ s.1 s.2.1 s.2.2.1 s.2.2.2)) (dd := (fun _ : Int32 × Int32 × Int32 × Int32 => (0, 0))) (sd := (fun s : Int32 × Int32 × Int32 × Int32 => sd_X12_asks_26   μ s.1 s.2.1 s.2.2.1 s.2.2.2)) (P := fun s : Int32 × Int32 × Int32 × Int32 => J E G 4 mX12_asks Q 26 [(0, rf E 49), (1, .int (s.1)), (2, .int (s.2.1)), (3, .int (s.2.2.1)), (4, .int (s.2.2.2))] [] (μ)) (R := fun r : Int32 × Int32 => J E G 4 mX12_asks Q 157 [(0, rf E 49), (2, .int (r.1)), (3, .int (r.2))] [] μ) ?_ FU (x1, x2, x3, x4) p (k _ rfl)
  clear p k
  rintro ⟨x1, x2, x3, x4⟩ t k1 k2
  dsimp only [sd_X12_asks_26] at t
  have kb : ∀ (y1 : Int32) (y2 : Int32) (y3 : Int32) (y4 : Int32) , bd_X12_asks_26  μ x1 x2 x3 x4 = .inl (y1, y2, y3, y4) → J E G 4 mX12_asks Q 26 [(0, rf E 49), (1, .int y1), (2, .int y2), (3, .int y3), (4, .int y4)] [] μ := fun y1 y2 y3 y4  h => k1 (y1, y2, y3, y4) h
  have kx : ∀ (y2 : Int32) (y3 : Int32) , bd_X12_asks_26  μ x1 x2 x3 x4 = .inr (y2, y3) → J E G 4 mX12_asks Q 157 [(0, rf E 49), (2, .int y2), (3, .int y3)] [] μ := fun y2 y3  h => k2 (y2, y3) h
  clear k1 k2
  refine J_iload (dk okX12_asks 16 rfl) 4 rfl ?_
  refine J_iconst (v := 5) (dk okX12_asks 17 rfl) (by decide) ?_
  refine J_icmp_ge (tgt := 157) (dk okX12_asks 18 rfl) (by decide) (fun h1 => ?_) (fun h1 => ?_)
  · exact J_sub [0, 2, 3] rfl (kx x2 x3 (by unfold bd_X12_asks_26; first | (simp only [if_pos h1]; done) | (simp only [if_pos h1]; rfl) | rfl))
  · have t := t h1
    refine J_iload (dk okX12_asks 19 rfl) 4 rfl ?_
    refine J_callSi (As := [.int x4]) (dk okX12_asks 20 rfl) skX12_lowest lkX12_412 rfl rfl (Nat.le_of_ble_eq_true rfl) (by decide) (con_X12_lowest  ⟨_, rfl, ?_⟩)
    refine J_istore (ls' := [(5, _), (0, _), (1, _), (2, _), (3, _), (4, _)]) (dk okX12_asks 21 rfl) (by decide) rfl ?_
    have s2 := t
    refine J_sub (ls' := [(0, _), (1, _), (2, _), (3, _), (4, _), (5, _)]) [1, 2, 3, 4, 5, 0] rfl ?_
    refine lw_X12_asks_39  s2 (fun r3 er3 => ?_)
    refine J_iinc (v := ((r3.2.2.2) + 1)) (ls' := [(4, _), (0, _), (1, _), (2, _), (3, _)]) (dk okX12_asks 77 rfl) 4 rfl rfl (by decide) rfl ?_
    refine J_goto (tgt := 26) (dk okX12_asks 78 rfl) (by decide) ?_
    exact J_sub [1, 2, 3, 4, 0] rfl (kb (r3.1) (r3.2.1) (r3.2.2.1) ((r3.2.2.2) + 1) (by subst er3; unfold bd_X12_asks_26; first | (simp only [if_neg h1]; done) | (simp only [if_neg h1]; rfl) | rfl))
/-- VotingFloorModel.asks()I -/
noncomputable def v_X12_asks  (μ : Mm) : Int32 := (let μ1 : Mm := (upI μ 49 0 0); (if (v_X12_fitting  μ1) = 0 then (-2) else (let r5 : Int32 × Int32 := whl (fun s : Int32 × Int32 × Int32 × Int32 => bd_X12_asks_26  μ1 s.1 s.2.1 s.2.2.1 s.2.2.2) (fun _ : Int32 × Int32 × Int32 × Int32 => (0, 0)) FU ((v_X12_fitting  μ1), (-1), 1000000, 0); (r5.1))))
noncomputable def e_X12_asks  (μ : Mm) : Mm := (let μ1 : Mm := (upI μ 49 0 0); (if (v_X12_fitting  μ1) = 0 then μ1 else (let r5 : Int32 × Int32 := whl (fun s : Int32 × Int32 × Int32 × Int32 => bd_X12_asks_26  μ1 s.1 s.2.1 s.2.2.1 s.2.2.2) (fun _ : Int32 × Int32 × Int32 × Int32 => (0, 0)) FU ((v_X12_fitting  μ1), (-1), 1000000, 0); (let μ6 : Mm := (upI μ1 49 1 0); (let μ8 : Mm := (e_X12_enters (Int32.toInt64 (r5.2)) μ6); μ8)))))
def p_X12_asks   (μ : Mm) : Prop := (∀ μ1 : Mm, μ1 = (upI μ 49 0 0) → (p_X12_fitting μ1) ∧ (¬ ((v_X12_fitting  μ1) = 0) → (whP (fun s : Int32 × Int32 × Int32 × Int32 => bd_X12_asks_26  μ1 s.1 s.2.1 s.2.2.1 s.2.2.2) (fun s : Int32 × Int32 × Int32 × Int32 => sd_X12_asks_26   μ1 s.1 s.2.1 s.2.2.1 s.2.2.2) FU ((v_X12_fitting  μ1), (-1), 1000000, 0)) ∧ (∀ r5 : Int32 × Int32, r5 = whl (fun s : Int32 × Int32 × Int32 × Int32 => bd_X12_asks_26  μ1 s.1 s.2.1 s.2.2.1 s.2.2.2) (fun _ : Int32 × Int32 × Int32 × Int32 => (0, 0)) FU ((v_X12_fitting  μ1), (-1), 1000000, 0) → (∀ μ6 : Mm, μ6 = (upI μ1 49 1 0) → p_X12_enters (Int32.toInt64 (r5.2)) μ6))))
set_option maxRecDepth 20000 in
set_option maxHeartbeats 4000000 in
theorem con_X12_asks {E : Ex} {Q : Option Value → Mm → Prop} {μ : Mm} (t : p_X12_asks   μ) (k : Q (some (.int (v_X12_asks  μ))) (e_X12_asks  μ)) : Con E 4 mX12_asks [rf E 49] μ Q := by
  refine Con_J (by decide +kernel) (Nat.le_of_ble_eq_true rfl) (fun G => ?_)
  unfold v_X12_asks e_X12_asks at k
  unfold p_X12_asks at t
  refine J_sub (ls' := [(0, rf E 49)]) [0] rfl ?_
  refine J_aload_n (dk okX12_asks 0 rfl) 0 rfl rfl ?_
  refine J_iconst (v := 0) (dk okX12_asks 1 rfl) (by decide) ?_
  refine J_put (dk okX12_asks 2 rfl) kpX12_3 ds_49 rfl rfl rfl ?_
  refine J_nm (fun μ1 eμ1 => ?_)
  have t := t μ1 eμ1
  refine J_aload_n (dk okX12_asks 3 rfl) 0 rfl rfl ?_
  obtain ⟨s2, t⟩ := t
  refine J_callVi (As := []) (dk okX12_asks 4 rfl) ds_49 rfl vkX12_fitting lkX12_425 rfl rfl (Nat.le_of_ble_eq_true rfl) (by decide) (con_X12_fitting s2 ⟨_, rfl, ?_⟩)
  refine J_istore_n (ls' := [(1, _), (0, _)]) (dk okX12_asks 5 rfl) rfl (by decide) rfl ?_
  refine J_iload_n (dk okX12_asks 6 rfl) 0 rfl rfl ?_
  refine J_if_ne (tgt := 17) (dk okX12_asks 7 rfl) (by decide) (fun h3 => ?_) (fun h3 => ?_)
  · have t := t h3
    refine J_iconst (v := (-1)) (dk okX12_asks 10 rfl) (by decide) ?_
    refine J_istore_n (ls' := [(2, _), (1, _), (0, _)]) (dk okX12_asks 11 rfl) rfl (by decide) rfl ?_
    refine J_ldc_w (v := 1000000) (dk okX12_asks 12 rfl) kcX12_409 ?_
    refine J_istore_n (ls' := [(3, _), (2, _), (1, _), (0, _)]) (dk okX12_asks 13 rfl) rfl (by decide) rfl ?_
    refine J_iconst (v := 0) (dk okX12_asks 14 rfl) (by decide) ?_
    refine J_istore (ls' := [(4, _), (3, _), (2, _), (1, _), (0, _)]) (dk okX12_asks 15 rfl) (by decide) rfl ?_
    obtain ⟨s4, t⟩ := t
    refine J_sub (ls' := [(0, _), (1, _), (2, _), (3, _), (4, _)]) [4, 3, 2, 1, 0] rfl ?_
    refine lw_X12_asks_26  s4 (fun r5 er5 => ?_)
    have t := t r5 er5
    refine J_aload_n (dk okX12_asks 79 rfl) 0 rfl rfl ?_
    refine J_iconst (v := 0) (dk okX12_asks 80 rfl) (by decide) ?_
    refine J_put (dk okX12_asks 81 rfl) kpX12_15 ds_49 rfl rfl rfl ?_
    refine J_nm (fun μ6 eμ6 => ?_)
    have t := t μ6 eμ6
    refine J_aload_n (dk okX12_asks 82 rfl) 0 rfl rfl ?_
    refine J_iload_n (dk okX12_asks 83 rfl) 2 rfl rfl ?_
    refine J_i2l (dk okX12_asks 84 rfl) ?_
    have s7 := t
    refine J_callVv (As := [.long (Int32.toInt64 (r5.2))]) (dk okX12_asks 85 rfl) ds_49 rfl vkX12_enters lkX12_18 rfl rfl (Nat.le_of_ble_eq_true rfl) (by decide) (con_X12_enters s7 ⟨rfl, ?_⟩)
    refine J_nm (fun μ8 eμ8 => ?_)
    refine J_iload_n (dk okX12_asks 86 rfl) 1 rfl rfl ?_
    subst eμ8 eμ6 er5 eμ1
    (try simp only [if_neg h3] at k ⊢)
    exact J_iret (dk okX12_asks 87 rfl) rfl k
  · refine J_bipush (v := (-2)) (dk okX12_asks 8 rfl) (by decide) ?_
    subst eμ1
    (try simp only [if_pos h3] at k ⊢)
    exact J_iret (dk okX12_asks 9 rfl) rfl k
noncomputable def bd_X12_backs_26  (x1 : Int32) (x2 : Int32) (x3 : Int32) (μ : Mm) : (Int32 × Int32 × Int32 × Mm) ⊕ (Int32 × Int32 × Mm) := (if (μ.1 49 3) ≤ x3 then .inr (x1, x2, μ) else (let μ9 : Mm := (if (v_X12_areBacks x2 x3 μ) = 0 then μ else (if x1 = 0 then ((e_X12_enters (Int32.toInt64 x3) ((e_X12_enters (Int32.toInt64 x2) μ)))) else μ : Mm) : Mm); .inl ((x1 + (v_X12_flag (v_X12_areBacks x2 x3 μ9))), x2, (x3 + 1), μ9)))
def sd_X12_backs_26   (x1 : Int32) (x2 : Int32) (x3 : Int32) (μ : Mm) : Prop := (¬ ((μ.1 49 3) ≤ x3) → (p_X12_areBacks x2 x3 μ) ∧ ((¬ ((v_X12_areBacks x2 x3 μ) = 0) → (x1 = 0 → (p_X12_enters (Int32.toInt64 x2) μ) ∧ (∀ μ6 : Mm, μ6 = (e_X12_enters (Int32.toInt64 x2) μ) → p_X12_enters (Int32.toInt64 x3) μ6)))) ∧ (∀ μ9 : Mm, μ9 = (if (v_X12_areBacks x2 x3 μ) = 0 then μ else (if x1 = 0 then ((e_X12_enters (Int32.toInt64 x3) ((e_X12_enters (Int32.toInt64 x2) μ)))) else μ : Mm) : Mm) → p_X12_areBacks x2 x3 μ9))
set_option maxRecDepth 20000 in
set_option maxHeartbeats 4000000 in
theorem lw_X12_backs_26 {E : Ex} {G : Gx} {Q : Option Value → Mm → Prop} {x1 : Int32} {x2 : Int32} {x3 : Int32} {μ : Mm}  (p : whP (fun s : Int32 × Int32 × Int32 × Mm => bd_X12_backs_26  s.1 s.2.1 s.2.2.1 s.2.2.2) (fun s : Int32 × Int32 × Int32 × Mm => sd_X12_backs_26   s.1 s.2.1 s.2.2.1 s.2.2.2) FU (x1, x2, x3, μ)) (k : ∀ r : Int32 × Int32 × Mm, r = whl (fun s : Int32 × Int32 × Int32 × Mm => bd_X12_backs_26  s.1 s.2.1 s.2.2.1 s.2.2.2) (fun s : Int32 × Int32 × Int32 × Mm => (0, 0, s.2.2.2)) FU (x1, x2, x3, μ) → J E G 4 mX12_backs Q 77 [(0, rf E 49), (1, .int (r.1)), (2, .int (r.2.1))] [] (r.2.2)) : J E G 4 mX12_backs Q 26 [(0, rf E 49), (1, .int x1), (2, .int x2), (3, .int x3)] [] μ := by
  refine J_whl (f := (fun s : Int32 × Int32 × Int32 × Mm => bd_X12_backs_26  s.1 s.2.1 s.2.2.1 s.2.2.2)) (dd := (fun s : Int32 × Int32 × Int32 × Mm => (0, 0, s.2.2.2))) (sd := (fun s : Int32 × Int32 × Int32 × Mm => sd_X12_backs_26   s.1 s.2.1 s.2.2.1 s.2.2.2)) (P := fun s : Int32 × Int32 × Int32 × Mm => J E G 4 mX12_backs Q 26 [(0, rf E 49), (1, .int (s.1)), (2, .int (s.2.1)), (3, .int (s.2.2.1))] [] (s.2.2.2)) (R := fun r : Int32 × Int32 × Mm => J E G 4 mX12_backs Q 77 [(0, rf E 49), (1, .int (r.1)), (2, .int (r.2.1))] [] (r.2.2)) ?_ FU (x1, x2, x3, μ) p (k _ rfl)
  clear p k
  rintro ⟨x1, x2, x3, μ⟩ t k1 k2
  dsimp only [sd_X12_backs_26] at t
  have kb : ∀ (y1 : Int32) (y2 : Int32) (y3 : Int32) (μ9 : Mm), bd_X12_backs_26  x1 x2 x3 μ = .inl (y1, y2, y3, μ9) → J E G 4 mX12_backs Q 26 [(0, rf E 49), (1, .int y1), (2, .int y2), (3, .int y3)] [] μ9 := fun y1 y2 y3 μ9 h => k1 (y1, y2, y3, μ9) h
  have kx : ∀ (y1 : Int32) (y2 : Int32) (μ9 : Mm), bd_X12_backs_26  x1 x2 x3 μ = .inr (y1, y2, μ9) → J E G 4 mX12_backs Q 77 [(0, rf E 49), (1, .int y1), (2, .int y2)] [] μ9 := fun y1 y2 μ9 h => k2 (y1, y2, μ9) h
  clear k1 k2
  refine J_iload_n (dk okX12_backs 18 rfl) 3 rfl rfl ?_
  refine J_aload_n (dk okX12_backs 19 rfl) 0 rfl rfl ?_
  refine J_getI (dk okX12_backs 20 rfl) kfX12_111 ds_49 rfl ?_
  refine J_icmp_ge (tgt := 77) (dk okX12_backs 21 rfl) (by decide) (fun h1 => ?_) (fun h1 => ?_)
  · exact J_sub [0, 1, 2] rfl (kx x1 x2 μ (by unfold bd_X12_backs_26; first | (simp only [if_pos h1]; done) | (simp only [if_pos h1]; rfl) | rfl))
  · have t := t h1
    refine J_aload_n (dk okX12_backs 22 rfl) 0 rfl rfl ?_
    refine J_iload_n (dk okX12_backs 23 rfl) 2 rfl rfl ?_
    refine J_iload_n (dk okX12_backs 24 rfl) 3 rfl rfl ?_
    obtain ⟨s2, t⟩ := t
    refine J_callVi (As := [.int x2, .int x3]) (dk okX12_backs 25 rfl) ds_49 rfl vkX12_areBacks lkX12_386 rfl rfl (Nat.le_of_ble_eq_true rfl) (by decide) (con_X12_areBacks s2 ⟨_, rfl, ?_⟩)
    obtain ⟨t9, t⟩ := t
    have K11 : J E G 4 mX12_backs Q 59 [(0, rf E 49), (1, .int x1), (2, .int x2), (3, .int x3)] [] (if (v_X12_areBacks x2 x3 μ) = 0 then μ else (if x1 = 0 then ((e_X12_enters (Int32.toInt64 x3) ((e_X12_enters (Int32.toInt64 x2) μ)))) else μ : Mm) : Mm) := by
      refine J_nm (fun μ9 eμ9 => ?_)
      have t := t μ9 eμ9
      refine J_iload_n (dk okX12_backs 37 rfl) 1 rfl rfl ?_
      refine J_aload_n (dk okX12_backs 38 rfl) 0 rfl rfl ?_
      refine J_iload_n (dk okX12_backs 39 rfl) 2 rfl rfl ?_
      refine J_iload_n (dk okX12_backs 40 rfl) 3 rfl rfl ?_
      have s10 := t
      refine J_callVi (As := [.int x2, .int x3]) (dk okX12_backs 41 rfl) ds_49 rfl vkX12_areBacks lkX12_386 rfl rfl (Nat.le_of_ble_eq_true rfl) (by decide) (con_X12_areBacks s10 ⟨_, rfl, ?_⟩)
      refine J_callSi (As := [.int (v_X12_areBacks x2 x3 μ9)]) (dk okX12_backs 42 rfl) skX12_flag lkX12_137 rfl rfl (Nat.le_of_ble_eq_true rfl) (by decide) (con_X12_flag  ⟨_, rfl, ?_⟩)
      refine J_iadd (dk okX12_backs 43 rfl) ?_
      refine J_istore_n (ls' := [(1, _), (0, _), (2, _), (3, _)]) (dk okX12_backs 44 rfl) rfl (by decide) rfl ?_
      refine J_iinc (v := (x3 + 1)) (ls' := [(3, _), (1, _), (0, _), (2, _)]) (dk okX12_backs 45 rfl) 3 rfl rfl (by decide) rfl ?_
      refine J_goto (tgt := 26) (dk okX12_backs 46 rfl) (by decide) ?_
      exact J_sub [2, 1, 3, 0] rfl (kb (x1 + (v_X12_flag (v_X12_areBacks x2 x3 μ9))) x2 (x3 + 1) μ9 (by subst eμ9; unfold bd_X12_backs_26; first | (simp only [if_neg h1]; done) | (simp only [if_neg h1]; rfl) | rfl))
    have t := t9
    refine J_if_eq (tgt := 59) (dk okX12_backs 26 rfl) (by decide) (fun h3 => ?_) (fun h3 => ?_)
    · refine J_sub (ls' := [(0, _), (1, _), (2, _), (3, _)]) [0, 1, 2, 3] rfl ?_
      (try simp only [if_pos h3] at K11 ⊢); exact K11
    · have t := t h3
      refine J_iload_n (dk okX12_backs 27 rfl) 1 rfl rfl ?_
      refine J_if_ne (tgt := 59) (dk okX12_backs 28 rfl) (by decide) (fun h4 => ?_) (fun h4 => ?_)
      · refine J_sub (ls' := [(0, _), (1, _), (2, _), (3, _)]) [0, 1, 2, 3] rfl ?_
        (try simp only [if_neg h3, if_neg h4] at K11 ⊢); exact K11
      · have t := t h4
        refine J_aload_n (dk okX12_backs 29 rfl) 0 rfl rfl ?_
        refine J_iload_n (dk okX12_backs 30 rfl) 2 rfl rfl ?_
        refine J_i2l (dk okX12_backs 31 rfl) ?_
        obtain ⟨s5, t⟩ := t
        refine J_callVv (As := [.long (Int32.toInt64 x2)]) (dk okX12_backs 32 rfl) ds_49 rfl vkX12_enters lkX12_18 rfl rfl (Nat.le_of_ble_eq_true rfl) (by decide) (con_X12_enters s5 ⟨rfl, ?_⟩)
        refine J_nm (fun μ6 eμ6 => ?_)
        have t := t μ6 eμ6
        refine J_aload_n (dk okX12_backs 33 rfl) 0 rfl rfl ?_
        refine J_iload_n (dk okX12_backs 34 rfl) 3 rfl rfl ?_
        refine J_i2l (dk okX12_backs 35 rfl) ?_
        have s7 := t
        refine J_callVv (As := [.long (Int32.toInt64 x3)]) (dk okX12_backs 36 rfl) ds_49 rfl vkX12_enters lkX12_18 rfl rfl (Nat.le_of_ble_eq_true rfl) (by decide) (con_X12_enters s7 ⟨rfl, ?_⟩)
        refine J_nm (fun μ8 eμ8 => ?_)
        subst eμ8 eμ6
        refine J_sub (ls' := [(0, _), (1, _), (2, _), (3, _)]) [0, 1, 2, 3] rfl ?_
        (try simp only [if_neg h3, if_pos h4] at K11 ⊢); exact K11
noncomputable def bd_X12_backs_14  (x1 : Int32) (x2 : Int32) (μ : Mm) : (Int32 × Int32 × Mm) ⊕ (Int32 × Mm) := (if (μ.1 49 3) ≤ x2 then .inr (x1, μ) else (let r3 : Int32 × Int32 × Mm := whl (fun s : Int32 × Int32 × Int32 × Mm => bd_X12_backs_26  s.1 s.2.1 s.2.2.1 s.2.2.2) (fun s : Int32 × Int32 × Int32 × Mm => (0, 0, s.2.2.2)) FU (x1, x2, (x2 + 1), μ); .inl ((r3.1), ((r3.2.1) + 1), (r3.2.2))))
def sd_X12_backs_14   (x1 : Int32) (x2 : Int32) (μ : Mm) : Prop := (¬ ((μ.1 49 3) ≤ x2) → whP (fun s : Int32 × Int32 × Int32 × Mm => bd_X12_backs_26  s.1 s.2.1 s.2.2.1 s.2.2.2) (fun s : Int32 × Int32 × Int32 × Mm => sd_X12_backs_26   s.1 s.2.1 s.2.2.1 s.2.2.2) FU (x1, x2, (x2 + 1), μ))
set_option maxRecDepth 20000 in
set_option maxHeartbeats 4000000 in
theorem lw_X12_backs_14 {E : Ex} {G : Gx} {Q : Option Value → Mm → Prop} {x1 : Int32} {x2 : Int32} {μ : Mm}  (p : whP (fun s : Int32 × Int32 × Mm => bd_X12_backs_14  s.1 s.2.1 s.2.2) (fun s : Int32 × Int32 × Mm => sd_X12_backs_14   s.1 s.2.1 s.2.2) FU (x1, x2, μ)) (k : ∀ r : Int32 × Mm, r = whl (fun s : Int32 × Int32 × Mm => bd_X12_backs_14  s.1 s.2.1 s.2.2) (fun s : Int32 × Int32 × Mm => (0, s.2.2)) FU (x1, x2, μ) → J E G 4 mX12_backs Q 83 [(1, .int (r.1))] [] (r.2)) : J E G 4 mX12_backs Q 14 [(0, rf E 49), (1, .int x1), (2, .int x2)] [] μ := by
  refine J_whl (f := (fun s : Int32 × Int32 × Mm => bd_X12_backs_14  s.1 s.2.1 s.2.2)) (dd := (fun s : Int32 × Int32 × Mm => (0, s.2.2))) (sd := (fun s : Int32 × Int32 × Mm => sd_X12_backs_14   s.1 s.2.1 s.2.2)) (P := fun s : Int32 × Int32 × Mm => J E G 4 mX12_backs Q 14 [(0, rf E 49), (1, .int (s.1)), (2, .int (s.2.1))] [] (s.2.2)) (R := fun r : Int32 × Mm => J E G 4 mX12_backs Q 83 [(1, .int (r.1))] [] (r.2)) ?_ FU (x1, x2, μ) p (k _ rfl)
  clear p k
  rintro ⟨x1, x2, μ⟩ t k1 k2
  dsimp only [sd_X12_backs_14] at t
  have kb : ∀ (y1 : Int32) (y2 : Int32) (μ9 : Mm), bd_X12_backs_14  x1 x2 μ = .inl (y1, y2, μ9) → J E G 4 mX12_backs Q 14 [(0, rf E 49), (1, .int y1), (2, .int y2)] [] μ9 := fun y1 y2 μ9 h => k1 (y1, y2, μ9) h
  have kx : ∀ (y1 : Int32) (μ9 : Mm), bd_X12_backs_14  x1 x2 μ = .inr (y1, μ9) → J E G 4 mX12_backs Q 83 [(1, .int y1)] [] μ9 := fun y1 μ9 h => k2 (y1, μ9) h
  clear k1 k2
  refine J_iload_n (dk okX12_backs 10 rfl) 2 rfl rfl ?_
  refine J_aload_n (dk okX12_backs 11 rfl) 0 rfl rfl ?_
  refine J_getI (dk okX12_backs 12 rfl) kfX12_111 ds_49 rfl ?_
  refine J_icmp_ge (tgt := 83) (dk okX12_backs 13 rfl) (by decide) (fun h1 => ?_) (fun h1 => ?_)
  · exact J_sub [1] rfl (kx x1 μ (by unfold bd_X12_backs_14; first | (simp only [if_pos h1]; done) | (simp only [if_pos h1]; rfl) | rfl))
  · have t := t h1
    refine J_iload_n (dk okX12_backs 14 rfl) 2 rfl rfl ?_
    refine J_iconst (v := 1) (dk okX12_backs 15 rfl) (by decide) ?_
    refine J_iadd (dk okX12_backs 16 rfl) ?_
    refine J_istore_n (ls' := [(3, _), (0, _), (1, _), (2, _)]) (dk okX12_backs 17 rfl) rfl (by decide) rfl ?_
    have s2 := t
    refine J_sub (ls' := [(0, _), (1, _), (2, _), (3, _)]) [1, 2, 3, 0] rfl ?_
    refine lw_X12_backs_26  s2 (fun r3 er3 => ?_)
    refine J_iinc (v := ((r3.2.1) + 1)) (ls' := [(2, _), (0, _), (1, _)]) (dk okX12_backs 47 rfl) 2 rfl rfl (by decide) rfl ?_
    refine J_goto (tgt := 14) (dk okX12_backs 48 rfl) (by decide) ?_
    exact J_sub [1, 2, 0] rfl (kb (r3.1) ((r3.2.1) + 1) (r3.2.2) (by subst er3; unfold bd_X12_backs_14; first | (simp only [if_neg h1]; done) | (simp only [if_neg h1]; rfl) | rfl))
/-- VotingFloorModel.backs()I -/
noncomputable def v_X12_backs  (μ : Mm) : Int32 := (let μ1 : Mm := (upI μ 49 0 0); (let μ2 : Mm := (upI μ1 49 1 0); (let r4 : Int32 × Mm := whl (fun s : Int32 × Int32 × Mm => bd_X12_backs_14  s.1 s.2.1 s.2.2) (fun s : Int32 × Int32 × Mm => (0, s.2.2)) FU (0, 0, μ2); (r4.1))))
noncomputable def e_X12_backs  (μ : Mm) : Mm := (let μ1 : Mm := (upI μ 49 0 0); (let μ2 : Mm := (upI μ1 49 1 0); (let r4 : Int32 × Mm := whl (fun s : Int32 × Int32 × Mm => bd_X12_backs_14  s.1 s.2.1 s.2.2) (fun s : Int32 × Int32 × Mm => (0, s.2.2)) FU (0, 0, μ2); (r4.2))))
def p_X12_backs   (μ : Mm) : Prop := (∀ μ1 : Mm, μ1 = (upI μ 49 0 0) → (∀ μ2 : Mm, μ2 = (upI μ1 49 1 0) → whP (fun s : Int32 × Int32 × Mm => bd_X12_backs_14  s.1 s.2.1 s.2.2) (fun s : Int32 × Int32 × Mm => sd_X12_backs_14   s.1 s.2.1 s.2.2) FU (0, 0, μ2)))
set_option maxRecDepth 20000 in
set_option maxHeartbeats 4000000 in
theorem con_X12_backs {E : Ex} {Q : Option Value → Mm → Prop} {μ : Mm} (t : p_X12_backs   μ) (k : Q (some (.int (v_X12_backs  μ))) (e_X12_backs  μ)) : Con E 4 mX12_backs [rf E 49] μ Q := by
  refine Con_J (by decide +kernel) (Nat.le_of_ble_eq_true rfl) (fun G => ?_)
  unfold v_X12_backs e_X12_backs at k
  unfold p_X12_backs at t
  refine J_sub (ls' := [(0, rf E 49)]) [0] rfl ?_
  refine J_aload_n (dk okX12_backs 0 rfl) 0 rfl rfl ?_
  refine J_iconst (v := 0) (dk okX12_backs 1 rfl) (by decide) ?_
  refine J_put (dk okX12_backs 2 rfl) kpX12_3 ds_49 rfl rfl rfl ?_
  refine J_nm (fun μ1 eμ1 => ?_)
  have t := t μ1 eμ1
  refine J_iconst (v := 0) (dk okX12_backs 3 rfl) (by decide) ?_
  refine J_istore_n (ls' := [(1, _), (0, _)]) (dk okX12_backs 4 rfl) rfl (by decide) rfl ?_
  refine J_aload_n (dk okX12_backs 5 rfl) 1 rfl rfl ?_
  refine J_iconst (v := 0) (dk okX12_backs 6 rfl) (by decide) ?_
  refine J_put (dk okX12_backs 7 rfl) kpX12_15 ds_49 rfl rfl rfl ?_
  refine J_nm (fun μ2 eμ2 => ?_)
  have t := t μ2 eμ2
  refine J_iconst (v := 0) (dk okX12_backs 8 rfl) (by decide) ?_
  refine J_istore_n (ls' := [(2, _), (1, _), (0, _)]) (dk okX12_backs 9 rfl) rfl (by decide) rfl ?_
  have s3 := t
  refine J_sub (ls' := [(0, _), (1, _), (2, _)]) [2, 1, 0] rfl ?_
  refine lw_X12_backs_14  s3 (fun r4 er4 => ?_)
  refine J_iload_n (dk okX12_backs 49 rfl) 0 rfl rfl ?_
  subst er4 eμ2 eμ1
  exact J_iret (dk okX12_backs 50 rfl) rfl k
noncomputable def bd_X12_canvass_9  (μ : Mm) (x1 : Int32) (x2 : Int32) : (Int32 × Int32) ⊕ (Int32) := (if (v_X12_all  μ) < x2 then .inr x1 else .inl ((if (v_X12_caring x2 μ) ≤ 0 then x1 else (if (v_X12_isFewer x2 x1) = 0 then x1 else x2 : Int32) : Int32), (x2 + 1)))
def sd_X12_canvass_9   (μ : Mm) (x1 : Int32) (x2 : Int32) : Prop := (¬ ((v_X12_all  μ) < x2) → p_X12_caring x2 μ)
set_option maxRecDepth 20000 in
set_option maxHeartbeats 4000000 in
theorem lw_X12_canvass_9 {E : Ex} {G : Gx} {Q : Option Value → Mm → Prop} {x1 : Int32} {x2 : Int32} {μ : Mm}  (p : whP (fun s : Int32 × Int32 => bd_X12_canvass_9  μ s.1 s.2) (fun s : Int32 × Int32 => sd_X12_canvass_9   μ s.1 s.2) FU (x1, x2)) (k : ∀ r : Int32, r = whl (fun s : Int32 × Int32 => bd_X12_canvass_9  μ s.1 s.2) (fun _ : Int32 × Int32 => 0) FU (x1, x2) → J E G 4 mX12_canvass Q 45 [(0, rf E 49), (1, .int r)] [] μ) : J E G 4 mX12_canvass Q 9 [(0, rf E 49), (1, .int x1), (2, .int x2)] [] μ := by
  refine J_whl (f := (fun s : Int32 × Int32 => bd_X12_canvass_9  μ s.1 s.2)) (dd := (fun _ : Int32 × Int32 => 0)) (sd := (fun s : Int32 × Int32 => sd_X12_canvass_9   μ s.1 s.2)) (P := fun s : Int32 × Int32 => J E G 4 mX12_canvass Q 9 [(0, rf E 49), (1, .int (s.1)), (2, .int (s.2))] [] (μ)) (R := fun r : Int32 => J E G 4 mX12_canvass Q 45 [(0, rf E 49), (1, .int r)] [] μ) ?_ FU (x1, x2) p (k _ rfl)
  clear p k
  rintro ⟨x1, x2⟩ t k1 k2
  dsimp only [sd_X12_canvass_9] at t
  have kb : ∀ (y1 : Int32) (y2 : Int32) , bd_X12_canvass_9  μ x1 x2 = .inl (y1, y2) → J E G 4 mX12_canvass Q 9 [(0, rf E 49), (1, .int y1), (2, .int y2)] [] μ := fun y1 y2  h => k1 (y1, y2) h
  have kx : ∀ (y1 : Int32) , bd_X12_canvass_9  μ x1 x2 = .inr y1 → J E G 4 mX12_canvass Q 45 [(0, rf E 49), (1, .int y1)] [] μ := fun y1  h => k2 y1 h
  clear k1 k2
  refine J_iload_n (dk okX12_canvass 7 rfl) 2 rfl rfl ?_
  refine J_aload_n (dk okX12_canvass 8 rfl) 0 rfl rfl ?_
  refine J_callVi (As := []) (dk okX12_canvass 9 rfl) ds_49 rfl vkX12_all lkX12_118 rfl rfl (Nat.le_of_ble_eq_true rfl) (by decide) (con_X12_all  ⟨_, rfl, ?_⟩)
  refine J_icmp_gt (tgt := 45) (dk okX12_canvass 10 rfl) (by decide) (fun h1 => ?_) (fun h1 => ?_)
  · exact J_sub [0, 1] rfl (kx x1 (by unfold bd_X12_canvass_9; first | (simp only [if_pos h1]; done) | (simp only [if_pos h1]; rfl) | rfl))
  · have t := t h1
    refine J_aload_n (dk okX12_canvass 11 rfl) 0 rfl rfl ?_
    refine J_iload_n (dk okX12_canvass 12 rfl) 2 rfl rfl ?_
    have s2 := t
    refine J_callVi (As := [.int x2]) (dk okX12_canvass 13 rfl) ds_49 rfl vkX12_caring lkX12_371 rfl rfl (Nat.le_of_ble_eq_true rfl) (by decide) (con_X12_caring s2 ⟨_, rfl, ?_⟩)
    have K5 : J E G 4 mX12_canvass Q 38 [(0, rf E 49), (2, .int x2)] [.int (if (v_X12_caring x2 μ) ≤ 0 then x1 else (if (v_X12_isFewer x2 x1) = 0 then x1 else x2 : Int32) : Int32)] μ := by
      refine J_istore_n (ls' := [(1, _), (0, _), (2, _)]) (dk okX12_canvass 22 rfl) rfl (by decide) rfl ?_
      refine J_iinc (v := (x2 + 1)) (ls' := [(2, _), (1, _), (0, _)]) (dk okX12_canvass 23 rfl) 2 rfl rfl (by decide) rfl ?_
      refine J_goto (tgt := 9) (dk okX12_canvass 24 rfl) (by decide) ?_
      exact J_sub [2, 1, 0] rfl (kb (if (v_X12_caring x2 μ) ≤ 0 then x1 else (if (v_X12_isFewer x2 x1) = 0 then x1 else x2 : Int32) : Int32) (x2 + 1) (by unfold bd_X12_canvass_9; first | (simp only [if_neg h1]; done) | (simp only [if_neg h1]; rfl) | rfl))
    refine J_if_le (tgt := 37) (dk okX12_canvass 14 rfl) (by decide) (fun h3 => ?_) (fun h3 => ?_)
    · refine J_iload_n (dk okX12_canvass 21 rfl) 1 rfl rfl ?_
      refine J_sub (ls' := [(0, _), (2, _)]) [0, 2] rfl ?_
      (try simp only [if_pos h3] at K5 ⊢); exact K5
    · refine J_iload_n (dk okX12_canvass 15 rfl) 2 rfl rfl ?_
      refine J_iload_n (dk okX12_canvass 16 rfl) 1 rfl rfl ?_
      refine J_callSi (As := [.int x2, .int x1]) (dk okX12_canvass 17 rfl) skX12_isFewer lkX12_365 rfl rfl (Nat.le_of_ble_eq_true rfl) (by decide) (con_X12_isFewer  ⟨_, rfl, ?_⟩)
      refine J_if_eq (tgt := 37) (dk okX12_canvass 18 rfl) (by decide) (fun h4 => ?_) (fun h4 => ?_)
      · refine J_iload_n (dk okX12_canvass 21 rfl) 1 rfl rfl ?_
        refine J_sub (ls' := [(0, _), (2, _)]) [0, 2] rfl ?_
        (try simp only [if_neg h3, if_pos h4] at K5 ⊢); exact K5
      · refine J_iload_n (dk okX12_canvass 19 rfl) 2 rfl rfl ?_
        refine J_goto (tgt := 38) (dk okX12_canvass 20 rfl) (by decide) ?_
        refine J_sub (ls' := [(0, _), (2, _)]) [0, 2] rfl ?_
        (try simp only [if_neg h3, if_neg h4] at K5 ⊢); exact K5
/-- VotingFloorModel.canvass()I -/
noncomputable def v_X12_canvass  (μ : Mm) : Int32 := (let μ1 : Mm := (upI μ 49 0 0); (let r3 : Int32 := whl (fun s : Int32 × Int32 => bd_X12_canvass_9  μ1 s.1 s.2) (fun _ : Int32 × Int32 => 0) FU ((-1), 0); (v_X12_entersFewest r3)))
noncomputable def e_X12_canvass  (μ : Mm) : Mm := (let μ1 : Mm := (upI μ 49 0 0); (let r3 : Int32 := whl (fun s : Int32 × Int32 => bd_X12_canvass_9  μ1 s.1 s.2) (fun _ : Int32 × Int32 => 0) FU ((-1), 0); (let μ5 : Mm := (e_X12_entersFewest r3 μ1); μ5)))
def p_X12_canvass   (μ : Mm) : Prop := (∀ μ1 : Mm, μ1 = (upI μ 49 0 0) → (whP (fun s : Int32 × Int32 => bd_X12_canvass_9  μ1 s.1 s.2) (fun s : Int32 × Int32 => sd_X12_canvass_9   μ1 s.1 s.2) FU ((-1), 0)) ∧ (∀ r3 : Int32, r3 = whl (fun s : Int32 × Int32 => bd_X12_canvass_9  μ1 s.1 s.2) (fun _ : Int32 × Int32 => 0) FU ((-1), 0) → p_X12_entersFewest r3 μ1))
set_option maxRecDepth 20000 in
set_option maxHeartbeats 4000000 in
theorem con_X12_canvass {E : Ex} {Q : Option Value → Mm → Prop} {μ : Mm} (t : p_X12_canvass   μ) (k : Q (some (.int (v_X12_canvass  μ))) (e_X12_canvass  μ)) : Con E 4 mX12_canvass [rf E 49] μ Q := by
  refine Con_J (by decide +kernel) (Nat.le_of_ble_eq_true rfl) (fun G => ?_)
  unfold v_X12_canvass e_X12_canvass at k
  unfold p_X12_canvass at t
  refine J_sub (ls' := [(0, rf E 49)]) [0] rfl ?_
  refine J_aload_n (dk okX12_canvass 0 rfl) 0 rfl rfl ?_
  refine J_iconst (v := 0) (dk okX12_canvass 1 rfl) (by decide) ?_
  refine J_put (dk okX12_canvass 2 rfl) kpX12_3 ds_49 rfl rfl rfl ?_
  refine J_nm (fun μ1 eμ1 => ?_)
  have t := t μ1 eμ1
  refine J_iconst (v := (-1)) (dk okX12_canvass 3 rfl) (by decide) ?_
  refine J_istore_n (ls' := [(1, _), (0, _)]) (dk okX12_canvass 4 rfl) rfl (by decide) rfl ?_
  refine J_iconst (v := 0) (dk okX12_canvass 5 rfl) (by decide) ?_
  refine J_istore_n (ls' := [(2, _), (1, _), (0, _)]) (dk okX12_canvass 6 rfl) rfl (by decide) rfl ?_
  obtain ⟨s2, t⟩ := t
  refine J_sub (ls' := [(0, _), (1, _), (2, _)]) [2, 1, 0] rfl ?_
  refine lw_X12_canvass_9  s2 (fun r3 er3 => ?_)
  have t := t r3 er3
  refine J_aload_n (dk okX12_canvass 25 rfl) 0 rfl rfl ?_
  refine J_iload_n (dk okX12_canvass 26 rfl) 1 rfl rfl ?_
  have s4 := t
  refine J_callVi (As := [.int r3]) (dk okX12_canvass 27 rfl) ds_49 rfl vkX12_entersFewest lkX12_368 rfl rfl (Nat.le_of_ble_eq_true rfl) (by decide) (con_X12_entersFewest s4 ⟨_, rfl, ?_⟩)
  refine J_nm (fun μ5 eμ5 => ?_)
  subst eμ5 er3 eμ1
  exact J_iret (dk okX12_canvass 28 rfl) rfl k
noncomputable def bd_X12_crowd_12  (μ : Mm) (x1 : Int32) (x2 : Int32) (x3 : Int32) : (Int32 × Int32 × Int32) ⊕ (Int32 × Int32) := (if 9 < x3 then .inr (x1, x2) else .inl ((if (if (v_J6_bitCount_0f7a4 (v_X12_standingOn 52 x3 μ)) ≤ (v_J6_bitCount_0f7a4 x1) then 0 else 1 : Int32) = 0 then x1 else (v_X12_standingOn 52 x3 μ) : Int32), (if (if (v_J6_bitCount_0f7a4 (v_X12_standingOn 52 x3 μ)) ≤ (v_J6_bitCount_0f7a4 x1) then 0 else 1 : Int32) = 0 then x2 else x3 : Int32), (x3 + 1)))
def sd_X12_crowd_12   (μ : Mm) (x1 : Int32) (x2 : Int32) (x3 : Int32) : Prop := (¬ (9 < x3) → p_X12_standingOn 52 x3 μ)
set_option maxRecDepth 20000 in
set_option maxHeartbeats 4000000 in
theorem lw_X12_crowd_12 {E : Ex} {G : Gx} {Q : Option Value → Mm → Prop} {x1 : Int32} {x2 : Int32} {x3 : Int32} {μ : Mm}  (p : whP (fun s : Int32 × Int32 × Int32 => bd_X12_crowd_12  μ s.1 s.2.1 s.2.2) (fun s : Int32 × Int32 × Int32 => sd_X12_crowd_12   μ s.1 s.2.1 s.2.2) FU (x1, x2, x3)) (k : ∀ r : Int32 × Int32, r = whl (fun s : Int32 × Int32 × Int32 => bd_X12_crowd_12  μ s.1 s.2.1 s.2.2) (fun _ : Int32 × Int32 × Int32 => (0, 0)) FU (x1, x2, x3) → J E G 4 mX12_crowd Q 77 [(0, rf E 49), (1, .int (r.1)), (2, .int (r.2))] [] μ) : J E G 4 mX12_crowd Q 12 [(0, rf E 49), (1, .int x1), (2, .int x2), (3, .int x3)] [] μ := by
  refine J_whl (f := (fun s : Int32 × Int32 × Int32 => bd_X12_crowd_12  μ s.1 s.2.1 s.2.2)) (dd := (fun _ : Int32 × Int32 × Int32 => (0, 0))) (sd := (fun s : Int32 × Int32 × Int32 => sd_X12_crowd_12   μ s.1 s.2.1 s.2.2)) (P := fun s : Int32 × Int32 × Int32 => J E G 4 mX12_crowd Q 12 [(0, rf E 49), (1, .int (s.1)), (2, .int (s.2.1)), (3, .int (s.2.2))] [] (μ)) (R := fun r : Int32 × Int32 => J E G 4 mX12_crowd Q 77 [(0, rf E 49), (1, .int (r.1)), (2, .int (r.2))] [] μ) ?_ FU (x1, x2, x3) p (k _ rfl)
  clear p k
  rintro ⟨x1, x2, x3⟩ t k1 k2
  dsimp only [sd_X12_crowd_12] at t
  have kb : ∀ (y1 : Int32) (y2 : Int32) (y3 : Int32) , bd_X12_crowd_12  μ x1 x2 x3 = .inl (y1, y2, y3) → J E G 4 mX12_crowd Q 12 [(0, rf E 49), (1, .int y1), (2, .int y2), (3, .int y3)] [] μ := fun y1 y2 y3  h => k1 (y1, y2, y3) h
  have kx : ∀ (y1 : Int32) (y2 : Int32) , bd_X12_crowd_12  μ x1 x2 x3 = .inr (y1, y2) → J E G 4 mX12_crowd Q 77 [(0, rf E 49), (1, .int y1), (2, .int y2)] [] μ := fun y1 y2  h => k2 (y1, y2) h
  clear k1 k2
  refine J_iload_n (dk okX12_crowd 9 rfl) 3 rfl rfl ?_
  refine J_bipush (v := 9) (dk okX12_crowd 10 rfl) (by decide) ?_
  refine J_icmp_gt (tgt := 77) (dk okX12_crowd 11 rfl) (by decide) (fun h1 => ?_) (fun h1 => ?_)
  · exact J_sub [0, 1, 2] rfl (kx x1 x2 (by unfold bd_X12_crowd_12; first | (simp only [if_pos h1]; done) | (simp only [if_pos h1]; rfl) | rfl))
  · have t := t h1
    refine J_aload_n (dk okX12_crowd 12 rfl) 0 rfl rfl ?_
    refine J_aload_n (dk okX12_crowd 13 rfl) 0 rfl rfl ?_
    refine J_getR (dk okX12_crowd 14 rfl) kfX12_32 ds_49 rfl ?_
    refine J_iload_n (dk okX12_crowd 15 rfl) 3 rfl rfl ?_
    have s2 := t
    refine J_callVi (As := [rf E 52, .int x3]) (dk okX12_crowd 16 rfl) ds_49 rfl vkX12_standingOn lkX12_312 rfl rfl (Nat.le_of_ble_eq_true rfl) (by decide) (con_X12_standingOn ds_52 s2 ⟨_, rfl, ?_⟩)
    refine J_istore (ls' := [(4, _), (0, _), (1, _), (2, _), (3, _)]) (dk okX12_crowd 17 rfl) (by decide) rfl ?_
    refine J_iload (dk okX12_crowd 18 rfl) 0 rfl ?_
    refine J_callSi (As := [.int (v_X12_standingOn 52 x3 μ)]) (dk okX12_crowd 19 rfl) skJ6_bitCount_0f7a4 lkX12_299 rfl rfl (Nat.le_of_ble_eq_true rfl) (by decide) (con_J6_bitCount_0f7a4  ⟨_, rfl, ?_⟩)
    refine J_iload_n (dk okX12_crowd 20 rfl) 2 rfl rfl ?_
    refine J_callSi (As := [.int x1]) (dk okX12_crowd 21 rfl) skJ6_bitCount_0f7a4 lkX12_299 rfl rfl (Nat.le_of_ble_eq_true rfl) (by decide) (con_J6_bitCount_0f7a4  ⟨_, rfl, ?_⟩)
    have K4 : J E G 4 mX12_crowd Q 46 [(0, rf E 49), (1, .int x1), (2, .int x2), (3, .int x3), (4, .int (v_X12_standingOn 52 x3 μ))] [.int (if (v_J6_bitCount_0f7a4 (v_X12_standingOn 52 x3 μ)) ≤ (v_J6_bitCount_0f7a4 x1) then 0 else 1 : Int32)] μ := by
      refine J_istore (ls' := [(5, _), (0, _), (1, _), (2, _), (3, _), (4, _)]) (dk okX12_crowd 26 rfl) (by decide) rfl ?_
      refine J_iload (dk okX12_crowd 27 rfl) 0 rfl ?_
      have K6 : J E G 4 mX12_crowd Q 59 [(0, rf E 49), (2, .int x2), (3, .int x3), (5, .int (if (v_J6_bitCount_0f7a4 (v_X12_standingOn 52 x3 μ)) ≤ (v_J6_bitCount_0f7a4 x1) then 0 else 1 : Int32))] [.int (if (if (v_J6_bitCount_0f7a4 (v_X12_standingOn 52 x3 μ)) ≤ (v_J6_bitCount_0f7a4 x1) then 0 else 1 : Int32) = 0 then x1 else (v_X12_standingOn 52 x3 μ) : Int32)] μ := by
        refine J_istore_n (ls' := [(1, _), (0, _), (2, _), (3, _), (5, _)]) (dk okX12_crowd 32 rfl) rfl (by decide) rfl ?_
        refine J_iload (dk okX12_crowd 33 rfl) 4 rfl ?_
        have K8 : J E G 4 mX12_crowd Q 70 [(0, rf E 49), (1, .int (if (if (v_J6_bitCount_0f7a4 (v_X12_standingOn 52 x3 μ)) ≤ (v_J6_bitCount_0f7a4 x1) then 0 else 1 : Int32) = 0 then x1 else (v_X12_standingOn 52 x3 μ) : Int32)), (3, .int x3)] [.int (if (if (v_J6_bitCount_0f7a4 (v_X12_standingOn 52 x3 μ)) ≤ (v_J6_bitCount_0f7a4 x1) then 0 else 1 : Int32) = 0 then x2 else x3 : Int32)] μ := by
          refine J_istore_n (ls' := [(2, _), (0, _), (1, _), (3, _)]) (dk okX12_crowd 38 rfl) rfl (by decide) rfl ?_
          refine J_iinc (v := (x3 + 1)) (ls' := [(3, _), (2, _), (0, _), (1, _)]) (dk okX12_crowd 39 rfl) 3 rfl rfl (by decide) rfl ?_
          refine J_goto (tgt := 12) (dk okX12_crowd 40 rfl) (by decide) ?_
          exact J_sub [2, 3, 1, 0] rfl (kb (if (if (v_J6_bitCount_0f7a4 (v_X12_standingOn 52 x3 μ)) ≤ (v_J6_bitCount_0f7a4 x1) then 0 else 1 : Int32) = 0 then x1 else (v_X12_standingOn 52 x3 μ) : Int32) (if (if (v_J6_bitCount_0f7a4 (v_X12_standingOn 52 x3 μ)) ≤ (v_J6_bitCount_0f7a4 x1) then 0 else 1 : Int32) = 0 then x2 else x3 : Int32) (x3 + 1) (by unfold bd_X12_crowd_12; first | (simp only [if_neg h1]; done) | (simp only [if_neg h1]; rfl) | rfl))
        refine J_if_eq (tgt := 69) (dk okX12_crowd 34 rfl) (by decide) (fun h7 => ?_) (fun h7 => ?_)
        · refine J_iload_n (dk okX12_crowd 37 rfl) 2 rfl rfl ?_
          refine J_sub (ls' := [(0, _), (1, _), (3, _)]) [1, 0, 3] rfl ?_
          (try simp only [if_pos h7] at K8 ⊢); exact K8
        · refine J_iload_n (dk okX12_crowd 35 rfl) 3 rfl rfl ?_
          refine J_goto (tgt := 70) (dk okX12_crowd 36 rfl) (by decide) ?_
          refine J_sub (ls' := [(0, _), (1, _), (3, _)]) [1, 0, 3] rfl ?_
          (try simp only [if_neg h7] at K8 ⊢); exact K8
      refine J_if_eq (tgt := 58) (dk okX12_crowd 28 rfl) (by decide) (fun h5 => ?_) (fun h5 => ?_)
      · refine J_iload_n (dk okX12_crowd 31 rfl) 2 rfl rfl ?_
        refine J_sub (ls' := [(0, _), (2, _), (3, _), (5, _)]) [1, 3, 4, 0] rfl ?_
        (try simp only [if_pos h5] at K6 ⊢); exact K6
      · refine J_iload (dk okX12_crowd 29 rfl) 5 rfl ?_
        refine J_goto (tgt := 59) (dk okX12_crowd 30 rfl) (by decide) ?_
        refine J_sub (ls' := [(0, _), (2, _), (3, _), (5, _)]) [1, 3, 4, 0] rfl ?_
        (try simp only [if_neg h5] at K6 ⊢); exact K6
    refine J_icmp_le (tgt := 45) (dk okX12_crowd 22 rfl) (by decide) (fun h3 => ?_) (fun h3 => ?_)
    · refine J_iconst (v := 0) (dk okX12_crowd 25 rfl) (by decide) ?_
      refine J_sub (ls' := [(0, _), (1, _), (2, _), (3, _), (4, _)]) [1, 2, 3, 4, 0] rfl ?_
      (try simp only [if_pos h3] at K4 ⊢); exact K4
    · refine J_iconst (v := 1) (dk okX12_crowd 23 rfl) (by decide) ?_
      refine J_goto (tgt := 46) (dk okX12_crowd 24 rfl) (by decide) ?_
      refine J_sub (ls' := [(0, _), (1, _), (2, _), (3, _), (4, _)]) [1, 2, 3, 4, 0] rfl ?_
      (try simp only [if_neg h3] at K4 ⊢); exact K4
/-- VotingFloorModel.crowd()I -/
noncomputable def v_X12_crowd  (μ : Mm) : Int32 := (let μ1 : Mm := (upI μ 49 0 0); (let r3 : Int32 × Int32 := whl (fun s : Int32 × Int32 × Int32 => bd_X12_crowd_12  μ1 s.1 s.2.1 s.2.2) (fun _ : Int32 × Int32 × Int32 => (0, 0)) FU (0, 0, (-9)); (v_J6_bitCount_0f7a4 (r3.1))))
noncomputable def e_X12_crowd  (μ : Mm) : Mm := (let μ1 : Mm := (upI μ 49 0 0); (let r3 : Int32 × Int32 := whl (fun s : Int32 × Int32 × Int32 => bd_X12_crowd_12  μ1 s.1 s.2.1 s.2.2) (fun _ : Int32 × Int32 × Int32 => (0, 0)) FU (0, 0, (-9)); (let μ4 : Mm := (upI μ1 49 1 0); (let μ10 : Mm := (if (r3.1) = 0 then μ4 else ((e_X12_enters (Int32.toInt64 (r3.1)) ((e_X12_enters (Int32.toInt64 (100 + (r3.2))) μ4)))) : Mm); μ10))))
def p_X12_crowd   (μ : Mm) : Prop := (∀ μ1 : Mm, μ1 = (upI μ 49 0 0) → (whP (fun s : Int32 × Int32 × Int32 => bd_X12_crowd_12  μ1 s.1 s.2.1 s.2.2) (fun s : Int32 × Int32 × Int32 => sd_X12_crowd_12   μ1 s.1 s.2.1 s.2.2) FU (0, 0, (-9))) ∧ (∀ r3 : Int32 × Int32, r3 = whl (fun s : Int32 × Int32 × Int32 => bd_X12_crowd_12  μ1 s.1 s.2.1 s.2.2) (fun _ : Int32 × Int32 × Int32 => (0, 0)) FU (0, 0, (-9)) → (∀ μ4 : Mm, μ4 = (upI μ1 49 1 0) → (¬ ((r3.1) = 0) → (p_X12_enters (Int32.toInt64 (100 + (r3.2))) μ4) ∧ (∀ μ7 : Mm, μ7 = (e_X12_enters (Int32.toInt64 (100 + (r3.2))) μ4) → p_X12_enters (Int32.toInt64 (r3.1)) μ7)))))
set_option maxRecDepth 20000 in
set_option maxHeartbeats 4000000 in
theorem con_X12_crowd {E : Ex} {Q : Option Value → Mm → Prop} {μ : Mm} (t : p_X12_crowd   μ) (k : Q (some (.int (v_X12_crowd  μ))) (e_X12_crowd  μ)) : Con E 4 mX12_crowd [rf E 49] μ Q := by
  refine Con_J (by decide +kernel) (Nat.le_of_ble_eq_true rfl) (fun G => ?_)
  unfold v_X12_crowd e_X12_crowd at k
  unfold p_X12_crowd at t
  refine J_sub (ls' := [(0, rf E 49)]) [0] rfl ?_
  refine J_aload_n (dk okX12_crowd 0 rfl) 0 rfl rfl ?_
  refine J_iconst (v := 0) (dk okX12_crowd 1 rfl) (by decide) ?_
  refine J_put (dk okX12_crowd 2 rfl) kpX12_3 ds_49 rfl rfl rfl ?_
  refine J_nm (fun μ1 eμ1 => ?_)
  have t := t μ1 eμ1
  refine J_iconst (v := 0) (dk okX12_crowd 3 rfl) (by decide) ?_
  refine J_istore_n (ls' := [(1, _), (0, _)]) (dk okX12_crowd 4 rfl) rfl (by decide) rfl ?_
  refine J_iconst (v := 0) (dk okX12_crowd 5 rfl) (by decide) ?_
  refine J_istore_n (ls' := [(2, _), (1, _), (0, _)]) (dk okX12_crowd 6 rfl) rfl (by decide) rfl ?_
  refine J_bipush (v := (-9)) (dk okX12_crowd 7 rfl) (by decide) ?_
  refine J_istore_n (ls' := [(3, _), (2, _), (1, _), (0, _)]) (dk okX12_crowd 8 rfl) rfl (by decide) rfl ?_
  obtain ⟨s2, t⟩ := t
  refine J_sub (ls' := [(0, _), (1, _), (2, _), (3, _)]) [3, 2, 1, 0] rfl ?_
  refine lw_X12_crowd_12  s2 (fun r3 er3 => ?_)
  have t := t r3 er3
  refine J_aload_n (dk okX12_crowd 41 rfl) 0 rfl rfl ?_
  refine J_iconst (v := 0) (dk okX12_crowd 42 rfl) (by decide) ?_
  refine J_put (dk okX12_crowd 43 rfl) kpX12_15 ds_49 rfl rfl rfl ?_
  refine J_nm (fun μ4 eμ4 => ?_)
  have t := t μ4 eμ4
  refine J_iload_n (dk okX12_crowd 44 rfl) 1 rfl rfl ?_
  have K11 : J E G 4 mX12_crowd Q 101 [(1, .int (r3.1))] [] (if (r3.1) = 0 then μ4 else ((e_X12_enters (Int32.toInt64 (r3.1)) ((e_X12_enters (Int32.toInt64 (100 + (r3.2))) μ4)))) : Mm) := by
    refine J_nm (fun μ10 eμ10 => ?_)
    refine J_iload_n (dk okX12_crowd 56 rfl) 0 rfl rfl ?_
    refine J_callSi (As := [.int (r3.1)]) (dk okX12_crowd 57 rfl) skJ6_bitCount_0f7a4 lkX12_299 rfl rfl (Nat.le_of_ble_eq_true rfl) (by decide) (con_J6_bitCount_0f7a4  ⟨_, rfl, ?_⟩)
    subst eμ10 eμ4 er3 eμ1
    exact J_iret (dk okX12_crowd 58 rfl) rfl k
  refine J_if_eq (tgt := 101) (dk okX12_crowd 45 rfl) (by decide) (fun h5 => ?_) (fun h5 => ?_)
  · refine J_sub (ls' := [(1, _)]) [1] rfl ?_
    (try simp only [if_pos h5] at K11 ⊢); exact K11
  · have t := t h5
    refine J_aload_n (dk okX12_crowd 46 rfl) 0 rfl rfl ?_
    refine J_bipush (v := 100) (dk okX12_crowd 47 rfl) (by decide) ?_
    refine J_iload_n (dk okX12_crowd 48 rfl) 2 rfl rfl ?_
    refine J_iadd (dk okX12_crowd 49 rfl) ?_
    refine J_i2l (dk okX12_crowd 50 rfl) ?_
    obtain ⟨s6, t⟩ := t
    refine J_callVv (As := [.long (Int32.toInt64 (100 + (r3.2)))]) (dk okX12_crowd 51 rfl) ds_49 rfl vkX12_enters lkX12_18 rfl rfl (Nat.le_of_ble_eq_true rfl) (by decide) (con_X12_enters s6 ⟨rfl, ?_⟩)
    refine J_nm (fun μ7 eμ7 => ?_)
    have t := t μ7 eμ7
    refine J_aload_n (dk okX12_crowd 52 rfl) 0 rfl rfl ?_
    refine J_iload_n (dk okX12_crowd 53 rfl) 1 rfl rfl ?_
    refine J_i2l (dk okX12_crowd 54 rfl) ?_
    have s8 := t
    refine J_callVv (As := [.long (Int32.toInt64 (r3.1))]) (dk okX12_crowd 55 rfl) ds_49 rfl vkX12_enters lkX12_18 rfl rfl (Nat.le_of_ble_eq_true rfl) (by decide) (con_X12_enters s8 ⟨rfl, ?_⟩)
    refine J_nm (fun μ9 eμ9 => ?_)
    subst eμ9 eμ7
    refine J_sub (ls' := [(1, _)]) [1] rfl ?_
    (try simp only [if_neg h5] at K11 ⊢); exact K11
/-- VotingFloorModel.fits()I -/
noncomputable def v_X12_fits  (μ : Mm) : Int32 := (let μ1 : Mm := (upI μ 49 0 0); (v_X12_fitting  μ1))
noncomputable def e_X12_fits  (μ : Mm) : Mm := (let μ1 : Mm := (upI μ 49 0 0); (let μ3 : Mm := (upI μ1 49 1 0); (let μ5 : Mm := (e_X12_enters (Int32.toInt64 (v_J6_bitCount_0f7a4 (v_X12_fitting  μ1))) μ3); μ5)))
def p_X12_fits   (μ : Mm) : Prop := (∀ μ1 : Mm, μ1 = (upI μ 49 0 0) → (p_X12_fitting μ1) ∧ (∀ μ3 : Mm, μ3 = (upI μ1 49 1 0) → p_X12_enters (Int32.toInt64 (v_J6_bitCount_0f7a4 (v_X12_fitting μ1))) μ3))
set_option maxRecDepth 20000 in
set_option maxHeartbeats 4000000 in
theorem con_X12_fits {E : Ex} {Q : Option Value → Mm → Prop} {μ : Mm} (t : p_X12_fits   μ) (k : Q (some (.int (v_X12_fits  μ))) (e_X12_fits  μ)) : Con E 4 mX12_fits [rf E 49] μ Q := by
  refine Con_J (by decide +kernel) (Nat.le_of_ble_eq_true rfl) (fun G => ?_)
  unfold v_X12_fits e_X12_fits at k
  unfold p_X12_fits at t
  refine J_sub (ls' := [(0, rf E 49)]) [0] rfl ?_
  refine J_aload_n (dk okX12_fits 0 rfl) 0 rfl rfl ?_
  refine J_iconst (v := 0) (dk okX12_fits 1 rfl) (by decide) ?_
  refine J_put (dk okX12_fits 2 rfl) kpX12_3 ds_49 rfl rfl rfl ?_
  refine J_nm (fun μ1 eμ1 => ?_)
  have t := t μ1 eμ1
  refine J_aload_n (dk okX12_fits 3 rfl) 0 rfl rfl ?_
  obtain ⟨s2, t⟩ := t
  refine J_callVi (As := []) (dk okX12_fits 4 rfl) ds_49 rfl vkX12_fitting lkX12_425 rfl rfl (Nat.le_of_ble_eq_true rfl) (by decide) (con_X12_fitting s2 ⟨_, rfl, ?_⟩)
  refine J_istore_n (ls' := [(1, _), (0, _)]) (dk okX12_fits 5 rfl) rfl (by decide) rfl ?_
  refine J_aload_n (dk okX12_fits 6 rfl) 1 rfl rfl ?_
  refine J_iconst (v := 0) (dk okX12_fits 7 rfl) (by decide) ?_
  refine J_put (dk okX12_fits 8 rfl) kpX12_15 ds_49 rfl rfl rfl ?_
  refine J_nm (fun μ3 eμ3 => ?_)
  have t := t μ3 eμ3
  refine J_aload_n (dk okX12_fits 9 rfl) 1 rfl rfl ?_
  refine J_iload_n (dk okX12_fits 10 rfl) 0 rfl rfl ?_
  refine J_callSi (As := [.int (v_X12_fitting  μ1)]) (dk okX12_fits 11 rfl) skJ6_bitCount_0f7a4 lkX12_299 rfl rfl (Nat.le_of_ble_eq_true rfl) (by decide) (con_J6_bitCount_0f7a4  ⟨_, rfl, ?_⟩)
  refine J_i2l (dk okX12_fits 12 rfl) ?_
  have s4 := t
  refine J_callVv (As := [.long (Int32.toInt64 (v_J6_bitCount_0f7a4 (v_X12_fitting  μ1)))]) (dk okX12_fits 13 rfl) ds_49 rfl vkX12_enters lkX12_18 rfl rfl (Nat.le_of_ble_eq_true rfl) (by decide) (con_X12_enters s4 ⟨rfl, ?_⟩)
  refine J_nm (fun μ5 eμ5 => ?_)
  refine J_iload_n (dk okX12_fits 14 rfl) 0 rfl rfl ?_
  subst eμ5 eμ3 eμ1
  exact J_iret (dk okX12_fits 15 rfl) rfl k
noncomputable def bd_X12_heads_14  (μ : Mm) (x1 : Int32) (x2 : Int32) (x3 : Int32) (x4 : Int32) : (Int32 × Int32 × Int32 × Int32) ⊕ (Int32 × Int32 × Int32) := (if (μ.1 49 3) ≤ x4 then .inr (x1, x2, x3) else .inl ((x1 + (if (v_X12_has (v_X12_here 52 μ) x4) = 0 then 0 else (v_X12_side (μ.1 52 (Int32.toNatClampNeg x4))) : Int32)), (x2 + ((if (v_X12_has (v_X12_here 52 μ) x4) = 0 then 0 else (v_X12_side (μ.1 52 (Int32.toNatClampNeg x4))) : Int32) * (v_X12_load 52 x4 μ))), (x3 + (if (v_X12_has (v_X12_here 52 μ) x4) = 0 then 0 else (μ.1 52 (Int32.toNatClampNeg x4)) : Int32)), (x4 + 1)))
def sd_X12_heads_14   (μ : Mm) (x1 : Int32) (x2 : Int32) (x3 : Int32) (x4 : Int32) : Prop := (¬ ((μ.1 49 3) ≤ x4) → ((¬ ((v_X12_has (v_X12_here 52 μ) x4) = 0) → vp_in x4 24)) ∧ (p_X12_load 52 x4) ∧ (¬ ((v_X12_has (v_X12_here 52 μ) x4) = 0) → vp_in x4 24))
set_option maxRecDepth 20000 in
set_option maxHeartbeats 4000000 in
theorem lw_X12_heads_14 {E : Ex} {G : Gx} {Q : Option Value → Mm → Prop} {x1 : Int32} {x2 : Int32} {x3 : Int32} {x4 : Int32} {μ : Mm}  (p : whP (fun s : Int32 × Int32 × Int32 × Int32 => bd_X12_heads_14  μ s.1 s.2.1 s.2.2.1 s.2.2.2) (fun s : Int32 × Int32 × Int32 × Int32 => sd_X12_heads_14   μ s.1 s.2.1 s.2.2.1 s.2.2.2) FU (x1, x2, x3, x4)) (k : ∀ r : Int32 × Int32 × Int32, r = whl (fun s : Int32 × Int32 × Int32 × Int32 => bd_X12_heads_14  μ s.1 s.2.1 s.2.2.1 s.2.2.2) (fun _ : Int32 × Int32 × Int32 × Int32 => (0, 0, 0)) FU (x1, x2, x3, x4) → J E G 4 mX12_heads Q 112 [(0, rf E 49), (1, .int (r.1)), (2, .int (r.2.1)), (3, .int (r.2.2))] [] μ) : J E G 4 mX12_heads Q 14 [(0, rf E 49), (1, .int x1), (2, .int x2), (3, .int x3), (4, .int x4)] [] μ := by
  refine J_whl (f := (fun s : Int32 × Int32 × Int32 × Int32 => bd_X12_heads_14  μ s.1 s.2.1 s.2.2.1 s.2.2.2)) (dd := (fun _ : Int32 × Int32 × Int32 × Int32 => (0, 0, 0))) (sd := (fun s : Int32 × Int32 × Int32 × Int32 => sd_X12_heads_14   μ s.1 s.2.1 s.2.2.1 s.2.2.2)) (P := fun s : Int32 × Int32 × Int32 × Int32 => J E G 4 mX12_heads Q 14 [(0, rf E 49), (1, .int (s.1)), (2, .int (s.2.1)), (3, .int (s.2.2.1)), (4, .int (s.2.2.2))] [] (μ)) (R := fun r : Int32 × Int32 × Int32 => J E G 4 mX12_heads Q 112 [(0, rf E 49), (1, .int (r.1)), (2, .int (r.2.1)), (3, .int (r.2.2))] [] μ) ?_ FU (x1, x2, x3, x4) p (k _ rfl)
  clear p k
  rintro ⟨x1, x2, x3, x4⟩ t k1 k2
  dsimp only [sd_X12_heads_14] at t
  have kb : ∀ (y1 : Int32) (y2 : Int32) (y3 : Int32) (y4 : Int32) , bd_X12_heads_14  μ x1 x2 x3 x4 = .inl (y1, y2, y3, y4) → J E G 4 mX12_heads Q 14 [(0, rf E 49), (1, .int y1), (2, .int y2), (3, .int y3), (4, .int y4)] [] μ := fun y1 y2 y3 y4  h => k1 (y1, y2, y3, y4) h
  have kx : ∀ (y1 : Int32) (y2 : Int32) (y3 : Int32) , bd_X12_heads_14  μ x1 x2 x3 x4 = .inr (y1, y2, y3) → J E G 4 mX12_heads Q 112 [(0, rf E 49), (1, .int y1), (2, .int y2), (3, .int y3)] [] μ := fun y1 y2 y3  h => k2 (y1, y2, y3) h
  clear k1 k2
  refine J_iload (dk okX12_heads 11 rfl) 4 rfl ?_
  refine J_aload_n (dk okX12_heads 12 rfl) 0 rfl rfl ?_
  refine J_getI (dk okX12_heads 13 rfl) kfX12_111 ds_49 rfl ?_
  refine J_icmp_ge (tgt := 112) (dk okX12_heads 14 rfl) (by decide) (fun h1 => ?_) (fun h1 => ?_)
  · exact J_sub [0, 1, 2, 3] rfl (kx x1 x2 x3 (by unfold bd_X12_heads_14; first | (simp only [if_pos h1]; done) | (simp only [if_pos h1]; rfl) | rfl))
  · have t := t h1
    refine J_aload_n (dk okX12_heads 15 rfl) 0 rfl rfl ?_
    refine J_aload_n (dk okX12_heads 16 rfl) 0 rfl rfl ?_
    refine J_getR (dk okX12_heads 17 rfl) kfX12_32 ds_49 rfl ?_
    refine J_callVi (As := [rf E 52]) (dk okX12_heads 18 rfl) ds_49 rfl vkX12_here lkX12_122 rfl rfl (Nat.le_of_ble_eq_true rfl) (by decide) (con_X12_here ds_52 ⟨_, rfl, ?_⟩)
    refine J_iload (dk okX12_heads 19 rfl) 4 rfl ?_
    refine J_callSi (As := [.int (v_X12_here 52 μ), .int x4]) (dk okX12_heads 20 rfl) skX12_has lkX12_126 rfl rfl (Nat.le_of_ble_eq_true rfl) (by decide) (con_X12_has  ⟨_, rfl, ?_⟩)
    obtain ⟨t9, t⟩ := t
    have K4 : J E G 4 mX12_heads Q 53 [(0, rf E 49), (1, .int x1), (2, .int x2), (3, .int x3), (4, .int x4)] [.int (if (v_X12_has (v_X12_here 52 μ) x4) = 0 then 0 else (v_X12_side (μ.1 52 (Int32.toNatClampNeg x4))) : Int32)] μ := by
      refine J_istore (ls' := [(5, _), (0, _), (1, _), (2, _), (3, _), (4, _)]) (dk okX12_heads 29 rfl) (by decide) rfl ?_
      refine J_iload_n (dk okX12_heads 30 rfl) 2 rfl rfl ?_
      refine J_iload (dk okX12_heads 31 rfl) 0 rfl ?_
      refine J_iadd (dk okX12_heads 32 rfl) ?_
      refine J_istore_n (ls' := [(1, _), (5, _), (0, _), (2, _), (3, _), (4, _)]) (dk okX12_heads 33 rfl) rfl (by decide) rfl ?_
      refine J_iload_n (dk okX12_heads 34 rfl) 3 rfl rfl ?_
      refine J_iload (dk okX12_heads 35 rfl) 1 rfl ?_
      refine J_aload_n (dk okX12_heads 36 rfl) 2 rfl rfl ?_
      refine J_aload_n (dk okX12_heads 37 rfl) 2 rfl rfl ?_
      refine J_getR (dk okX12_heads 38 rfl) kfX12_32 ds_49 rfl ?_
      refine J_iload (dk okX12_heads 39 rfl) 5 rfl ?_
      obtain ⟨s5, t⟩ := t
      refine J_callVi (As := [rf E 52, .int x4]) (dk okX12_heads 40 rfl) ds_49 rfl vkX12_load lkX12_130 rfl rfl (Nat.le_of_ble_eq_true rfl) (by decide) (con_X12_load ds_52 s5 ⟨_, rfl, ?_⟩)
      refine J_imul (dk okX12_heads 41 rfl) ?_
      refine J_iadd (dk okX12_heads 42 rfl) ?_
      refine J_istore_n (ls' := [(2, _), (1, _), (5, _), (0, _), (3, _), (4, _)]) (dk okX12_heads 43 rfl) rfl (by decide) rfl ?_
      refine J_iload_n (dk okX12_heads 44 rfl) 4 rfl rfl ?_
      refine J_aload_n (dk okX12_heads 45 rfl) 3 rfl rfl ?_
      refine J_aload_n (dk okX12_heads 46 rfl) 3 rfl rfl ?_
      refine J_getR (dk okX12_heads 47 rfl) kfX12_32 ds_49 rfl ?_
      refine J_callVi (As := [rf E 52]) (dk okX12_heads 48 rfl) ds_49 rfl vkX12_here lkX12_122 rfl rfl (Nat.le_of_ble_eq_true rfl) (by decide) (con_X12_here ds_52 ⟨_, rfl, ?_⟩)
      refine J_iload (dk okX12_heads 49 rfl) 5 rfl ?_
      refine J_callSi (As := [.int (v_X12_here 52 μ), .int x4]) (dk okX12_heads 50 rfl) skX12_has lkX12_126 rfl rfl (Nat.le_of_ble_eq_true rfl) (by decide) (con_X12_has  ⟨_, rfl, ?_⟩)
      have K8 : J E G 4 mX12_heads Q 104 [(0, rf E 49), (1, .int (x1 + (if (v_X12_has (v_X12_here 52 μ) x4) = 0 then 0 else (v_X12_side (μ.1 52 (Int32.toNatClampNeg x4))) : Int32))), (2, .int (x2 + ((if (v_X12_has (v_X12_here 52 μ) x4) = 0 then 0 else (v_X12_side (μ.1 52 (Int32.toNatClampNeg x4))) : Int32) * (v_X12_load 52 x4 μ)))), (4, .int x4)] [.int (if (v_X12_has (v_X12_here 52 μ) x4) = 0 then 0 else (μ.1 52 (Int32.toNatClampNeg x4)) : Int32), .int x3] μ := by
        refine J_iadd (dk okX12_heads 58 rfl) ?_
        refine J_istore_n (ls' := [(3, _), (0, _), (1, _), (2, _), (4, _)]) (dk okX12_heads 59 rfl) rfl (by decide) rfl ?_
        refine J_iinc (v := (x4 + 1)) (ls' := [(4, _), (3, _), (0, _), (1, _), (2, _)]) (dk okX12_heads 60 rfl) 4 rfl rfl (by decide) rfl ?_
        refine J_goto (tgt := 14) (dk okX12_heads 61 rfl) (by decide) ?_
        exact J_sub [2, 3, 4, 1, 0] rfl (kb (x1 + (if (v_X12_has (v_X12_here 52 μ) x4) = 0 then 0 else (v_X12_side (μ.1 52 (Int32.toNatClampNeg x4))) : Int32)) (x2 + ((if (v_X12_has (v_X12_here 52 μ) x4) = 0 then 0 else (v_X12_side (μ.1 52 (Int32.toNatClampNeg x4))) : Int32) * (v_X12_load 52 x4 μ))) (x3 + (if (v_X12_has (v_X12_here 52 μ) x4) = 0 then 0 else (μ.1 52 (Int32.toNatClampNeg x4)) : Int32)) (x4 + 1) (by unfold bd_X12_heads_14; first | (simp only [if_neg h1]; done) | (simp only [if_neg h1]; rfl) | rfl))
      refine J_if_eq (tgt := 103) (dk okX12_heads 51 rfl) (by decide) (fun h6 => ?_) (fun h6 => ?_)
      · refine J_iconst (v := 0) (dk okX12_heads 57 rfl) (by decide) ?_
        refine J_sub (ls' := [(0, _), (1, _), (2, _), (4, _)]) [3, 1, 0, 5] rfl ?_
        (try simp only [if_pos h6] at K8 ⊢); exact K8
      · have t := t h6
        refine J_aload_n (dk okX12_heads 52 rfl) 3 rfl rfl ?_
        refine J_getR (dk okX12_heads 53 rfl) kfX12_32 ds_49 rfl ?_
        refine J_iload (dk okX12_heads 54 rfl) 5 rfl ?_
        have s7 := t
        refine J_iald (dk okX12_heads 55 rfl) ds_52 s7 ?_
        refine J_goto (tgt := 104) (dk okX12_heads 56 rfl) (by decide) ?_
        refine J_sub (ls' := [(0, _), (1, _), (2, _), (4, _)]) [3, 1, 0, 5] rfl ?_
        (try simp only [if_neg h6] at K8 ⊢); exact K8
    have t := t9
    refine J_if_eq (tgt := 52) (dk okX12_heads 21 rfl) (by decide) (fun h2 => ?_) (fun h2 => ?_)
    · refine J_iconst (v := 0) (dk okX12_heads 28 rfl) (by decide) ?_
      refine J_sub (ls' := [(0, _), (1, _), (2, _), (3, _), (4, _)]) [0, 1, 2, 3, 4] rfl ?_
      (try simp only [if_pos h2] at K4 ⊢); exact K4
    · have t := t h2
      refine J_aload_n (dk okX12_heads 22 rfl) 0 rfl rfl ?_
      refine J_getR (dk okX12_heads 23 rfl) kfX12_32 ds_49 rfl ?_
      refine J_iload (dk okX12_heads 24 rfl) 4 rfl ?_
      have s3 := t
      refine J_iald (dk okX12_heads 25 rfl) ds_52 s3 ?_
      refine J_callSi (As := [.int (μ.1 52 (Int32.toNatClampNeg x4))]) (dk okX12_heads 26 rfl) skX12_side lkX12_260 rfl rfl (Nat.le_of_ble_eq_true rfl) (by decide) (con_X12_side  ⟨_, rfl, ?_⟩)
      refine J_goto (tgt := 53) (dk okX12_heads 27 rfl) (by decide) ?_
      refine J_sub (ls' := [(0, _), (1, _), (2, _), (3, _), (4, _)]) [0, 1, 2, 3, 4] rfl ?_
      (try simp only [if_neg h2] at K4 ⊢); exact K4
/-- VotingFloorModel.heads()I -/
noncomputable def v_X12_heads  (μ : Mm) : Int32 := (let μ1 : Mm := (upI μ 49 0 0); (let r3 : Int32 × Int32 × Int32 := whl (fun s : Int32 × Int32 × Int32 × Int32 => bd_X12_heads_14  μ1 s.1 s.2.1 s.2.2.1 s.2.2.2) (fun _ : Int32 × Int32 × Int32 × Int32 => (0, 0, 0)) FU (0, 0, 0, 0); (100 + (r3.1))))
noncomputable def e_X12_heads  (μ : Mm) : Mm := (let μ1 : Mm := (upI μ 49 0 0); (let r3 : Int32 × Int32 × Int32 := whl (fun s : Int32 × Int32 × Int32 × Int32 => bd_X12_heads_14  μ1 s.1 s.2.1 s.2.2.1 s.2.2.2) (fun _ : Int32 × Int32 × Int32 × Int32 => (0, 0, 0)) FU (0, 0, 0, 0); (let μ4 : Mm := (upI μ1 49 1 0); (let μ6 : Mm := (e_X12_enters (Int32.toInt64 (1000 + (r3.2.1))) μ4); (let μ8 : Mm := (e_X12_enters (Int32.toInt64 (1000 + (r3.2.2))) μ6); (let μ11 : Mm := (e_X12_enters (Int32.toInt64 (10000 + (v_X12_caring 0 μ8))) μ8); μ11))))))
def p_X12_heads   (μ : Mm) : Prop := (∀ μ1 : Mm, μ1 = (upI μ 49 0 0) → (whP (fun s : Int32 × Int32 × Int32 × Int32 => bd_X12_heads_14  μ1 s.1 s.2.1 s.2.2.1 s.2.2.2) (fun s : Int32 × Int32 × Int32 × Int32 => sd_X12_heads_14   μ1 s.1 s.2.1 s.2.2.1 s.2.2.2) FU (0, 0, 0, 0)) ∧ (∀ r3 : Int32 × Int32 × Int32, r3 = whl (fun s : Int32 × Int32 × Int32 × Int32 => bd_X12_heads_14  μ1 s.1 s.2.1 s.2.2.1 s.2.2.2) (fun _ : Int32 × Int32 × Int32 × Int32 => (0, 0, 0)) FU (0, 0, 0, 0) → (∀ μ4 : Mm, μ4 = (upI μ1 49 1 0) → (p_X12_enters (Int32.toInt64 (1000 + (r3.2.1))) μ4) ∧ (∀ μ6 : Mm, μ6 = (e_X12_enters (Int32.toInt64 (1000 + (r3.2.1))) μ4) → (p_X12_enters (Int32.toInt64 (1000 + (r3.2.2))) μ6) ∧ (∀ μ8 : Mm, μ8 = (e_X12_enters (Int32.toInt64 (1000 + (r3.2.2))) μ6) → (p_X12_caring 0 μ8) ∧ p_X12_enters (Int32.toInt64 (10000 + (v_X12_caring 0 μ8))) μ8)))))
set_option maxRecDepth 20000 in
set_option maxHeartbeats 4000000 in
theorem con_X12_heads {E : Ex} {Q : Option Value → Mm → Prop} {μ : Mm} (t : p_X12_heads   μ) (k : Q (some (.int (v_X12_heads  μ))) (e_X12_heads  μ)) : Con E 4 mX12_heads [rf E 49] μ Q := by
  refine Con_J (by decide +kernel) (Nat.le_of_ble_eq_true rfl) (fun G => ?_)
  unfold v_X12_heads e_X12_heads at k
  unfold p_X12_heads at t
  refine J_sub (ls' := [(0, rf E 49)]) [0] rfl ?_
  refine J_aload_n (dk okX12_heads 0 rfl) 0 rfl rfl ?_
  refine J_iconst (v := 0) (dk okX12_heads 1 rfl) (by decide) ?_
  refine J_put (dk okX12_heads 2 rfl) kpX12_3 ds_49 rfl rfl rfl ?_
  refine J_nm (fun μ1 eμ1 => ?_)
  have t := t μ1 eμ1
  refine J_iconst (v := 0) (dk okX12_heads 3 rfl) (by decide) ?_
  refine J_istore_n (ls' := [(1, _), (0, _)]) (dk okX12_heads 4 rfl) rfl (by decide) rfl ?_
  refine J_iconst (v := 0) (dk okX12_heads 5 rfl) (by decide) ?_
  refine J_istore_n (ls' := [(2, _), (1, _), (0, _)]) (dk okX12_heads 6 rfl) rfl (by decide) rfl ?_
  refine J_iconst (v := 0) (dk okX12_heads 7 rfl) (by decide) ?_
  refine J_istore_n (ls' := [(3, _), (2, _), (1, _), (0, _)]) (dk okX12_heads 8 rfl) rfl (by decide) rfl ?_
  refine J_iconst (v := 0) (dk okX12_heads 9 rfl) (by decide) ?_
  refine J_istore (ls' := [(4, _), (3, _), (2, _), (1, _), (0, _)]) (dk okX12_heads 10 rfl) (by decide) rfl ?_
  obtain ⟨s2, t⟩ := t
  refine J_sub (ls' := [(0, _), (1, _), (2, _), (3, _), (4, _)]) [4, 3, 2, 1, 0] rfl ?_
  refine lw_X12_heads_14  s2 (fun r3 er3 => ?_)
  have t := t r3 er3
  refine J_aload_n (dk okX12_heads 62 rfl) 0 rfl rfl ?_
  refine J_iconst (v := 0) (dk okX12_heads 63 rfl) (by decide) ?_
  refine J_put (dk okX12_heads 64 rfl) kpX12_15 ds_49 rfl rfl rfl ?_
  refine J_nm (fun μ4 eμ4 => ?_)
  have t := t μ4 eμ4
  refine J_aload_n (dk okX12_heads 65 rfl) 0 rfl rfl ?_
  refine J_sipush (v := 1000) (dk okX12_heads 66 rfl) (by decide) ?_
  refine J_iload_n (dk okX12_heads 67 rfl) 2 rfl rfl ?_
  refine J_iadd (dk okX12_heads 68 rfl) ?_
  refine J_i2l (dk okX12_heads 69 rfl) ?_
  obtain ⟨s5, t⟩ := t
  refine J_callVv (As := [.long (Int32.toInt64 (1000 + (r3.2.1)))]) (dk okX12_heads 70 rfl) ds_49 rfl vkX12_enters lkX12_18 rfl rfl (Nat.le_of_ble_eq_true rfl) (by decide) (con_X12_enters s5 ⟨rfl, ?_⟩)
  refine J_nm (fun μ6 eμ6 => ?_)
  have t := t μ6 eμ6
  refine J_aload_n (dk okX12_heads 71 rfl) 0 rfl rfl ?_
  refine J_sipush (v := 1000) (dk okX12_heads 72 rfl) (by decide) ?_
  refine J_iload_n (dk okX12_heads 73 rfl) 3 rfl rfl ?_
  refine J_iadd (dk okX12_heads 74 rfl) ?_
  refine J_i2l (dk okX12_heads 75 rfl) ?_
  obtain ⟨s7, t⟩ := t
  refine J_callVv (As := [.long (Int32.toInt64 (1000 + (r3.2.2)))]) (dk okX12_heads 76 rfl) ds_49 rfl vkX12_enters lkX12_18 rfl rfl (Nat.le_of_ble_eq_true rfl) (by decide) (con_X12_enters s7 ⟨rfl, ?_⟩)
  refine J_nm (fun μ8 eμ8 => ?_)
  have t := t μ8 eμ8
  refine J_aload_n (dk okX12_heads 77 rfl) 0 rfl rfl ?_
  refine J_sipush (v := 10000) (dk okX12_heads 78 rfl) (by decide) ?_
  refine J_aload_n (dk okX12_heads 79 rfl) 0 rfl rfl ?_
  refine J_iconst (v := 0) (dk okX12_heads 80 rfl) (by decide) ?_
  obtain ⟨s9, t⟩ := t
  refine J_callVi (As := [.int 0]) (dk okX12_heads 81 rfl) ds_49 rfl vkX12_caring lkX12_371 rfl rfl (Nat.le_of_ble_eq_true rfl) (by decide) (con_X12_caring s9 ⟨_, rfl, ?_⟩)
  refine J_iadd (dk okX12_heads 82 rfl) ?_
  refine J_i2l (dk okX12_heads 83 rfl) ?_
  have s10 := t
  refine J_callVv (As := [.long (Int32.toInt64 (10000 + (v_X12_caring 0 μ8)))]) (dk okX12_heads 84 rfl) ds_49 rfl vkX12_enters lkX12_18 rfl rfl (Nat.le_of_ble_eq_true rfl) (by decide) (con_X12_enters s10 ⟨rfl, ?_⟩)
  refine J_nm (fun μ11 eμ11 => ?_)
  refine J_bipush (v := 100) (dk okX12_heads 85 rfl) (by decide) ?_
  refine J_iload_n (dk okX12_heads 86 rfl) 1 rfl rfl ?_
  refine J_iadd (dk okX12_heads 87 rfl) ?_
  subst eμ11 eμ8 eμ6 eμ4 er3 eμ1
  exact J_iret (dk okX12_heads 88 rfl) rfl k
noncomputable def bd_X12_just_26  (μ : Mm) (x1 : Int32) (x2 : Int32) (x3 : Int32) (x4 : Int32) : (Int32 × Int32 × Int32 × Int32) ⊕ (Int32 × Int32) := (if (v_X12_all  μ) < x4 then .inr (x2, x3) else .inl (x1, (if (if (x4 &&& (μ.1 52 (Int32.toNatClampNeg 21))) = 0 then (if (v_X12_loadOf 52 x4 μ) = x1 then 1 else 0 : Int32) else 0 : Int32) = 0 then x2 else (if (v_X12_isFewer x4 x2) = 0 then x2 else x4 : Int32) : Int32), (x3 + (v_X12_flag (if (x4 &&& (μ.1 52 (Int32.toNatClampNeg 21))) = 0 then (if (v_X12_loadOf 52 x4 μ) = x1 then 1 else 0 : Int32) else 0 : Int32))), (x4 + 1)))
def sd_X12_just_26   (μ : Mm) (x1 : Int32) (x2 : Int32) (x3 : Int32) (x4 : Int32) : Prop := (¬ ((v_X12_all  μ) < x4) → ((x4 &&& (μ.1 52 (Int32.toNatClampNeg 21))) = 0 → p_X12_loadOf 52 x4 μ))
set_option maxRecDepth 20000 in
set_option maxHeartbeats 4000000 in
theorem lw_X12_just_26 {E : Ex} {G : Gx} {Q : Option Value → Mm → Prop} {x1 : Int32} {x2 : Int32} {x3 : Int32} {x4 : Int32} {μ : Mm}  (p : whP (fun s : Int32 × Int32 × Int32 × Int32 => bd_X12_just_26  μ s.1 s.2.1 s.2.2.1 s.2.2.2) (fun s : Int32 × Int32 × Int32 × Int32 => sd_X12_just_26   μ s.1 s.2.1 s.2.2.1 s.2.2.2) FU (x1, x2, x3, x4)) (k : ∀ r : Int32 × Int32, r = whl (fun s : Int32 × Int32 × Int32 × Int32 => bd_X12_just_26  μ s.1 s.2.1 s.2.2.1 s.2.2.2) (fun _ : Int32 × Int32 × Int32 × Int32 => (0, 0)) FU (x1, x2, x3, x4) → J E G 4 mX12_just Q 104 [(0, rf E 49), (2, .int (r.1)), (3, .int (r.2))] [] μ) : J E G 4 mX12_just Q 26 [(0, rf E 49), (1, .int x1), (2, .int x2), (3, .int x3), (4, .int x4)] [] μ := by
  refine J_whl (f := (fun s : Int32 × Int32 × Int32 × Int32 => bd_X12_just_26  μ s.1 s.2.1 s.2.2.1 s.2.2.2)) (dd := (fun _ : Int32 × Int32 × Int32 × Int32 => (0, 0))) (sd := (fun s : Int32 × Int32 × Int32 × Int32 => sd_X12_just_26   μ s.1 s.2.1 s.2.2.1 s.2.2.2)) (P := fun s : Int32 × Int32 × Int32 × Int32 => J E G 4 mX12_just Q 26 [(0, rf E 49), (1, .int (s.1)), (2, .int (s.2.1)), (3, .int (s.2.2.1)), (4, .int (s.2.2.2))] [] (μ)) (R := fun r : Int32 × Int32 => J E G 4 mX12_just Q 104 [(0, rf E 49), (2, .int (r.1)), (3, .int (r.2))] [] μ) ?_ FU (x1, x2, x3, x4) p (k _ rfl)
  clear p k
  rintro ⟨x1, x2, x3, x4⟩ t k1 k2
  dsimp only [sd_X12_just_26] at t
  have kb : ∀ (y1 : Int32) (y2 : Int32) (y3 : Int32) (y4 : Int32) , bd_X12_just_26  μ x1 x2 x3 x4 = .inl (y1, y2, y3, y4) → J E G 4 mX12_just Q 26 [(0, rf E 49), (1, .int y1), (2, .int y2), (3, .int y3), (4, .int y4)] [] μ := fun y1 y2 y3 y4  h => k1 (y1, y2, y3, y4) h
  have kx : ∀ (y2 : Int32) (y3 : Int32) , bd_X12_just_26  μ x1 x2 x3 x4 = .inr (y2, y3) → J E G 4 mX12_just Q 104 [(0, rf E 49), (2, .int y2), (3, .int y3)] [] μ := fun y2 y3  h => k2 (y2, y3) h
  clear k1 k2
  refine J_iload (dk okX12_just 17 rfl) 4 rfl ?_
  refine J_aload_n (dk okX12_just 18 rfl) 0 rfl rfl ?_
  refine J_callVi (As := []) (dk okX12_just 19 rfl) ds_49 rfl vkX12_all lkX12_118 rfl rfl (Nat.le_of_ble_eq_true rfl) (by decide) (con_X12_all  ⟨_, rfl, ?_⟩)
  refine J_icmp_gt (tgt := 104) (dk okX12_just 20 rfl) (by decide) (fun h1 => ?_) (fun h1 => ?_)
  · exact J_sub [0, 2, 3] rfl (kx x2 x3 (by unfold bd_X12_just_26; first | (simp only [if_pos h1]; done) | (simp only [if_pos h1]; rfl) | rfl))
  · have t := t h1
    refine J_iload (dk okX12_just 21 rfl) 4 rfl ?_
    refine J_aload_n (dk okX12_just 22 rfl) 0 rfl rfl ?_
    refine J_getR (dk okX12_just 23 rfl) kfX12_32 ds_49 rfl ?_
    refine J_bipush (v := 21) (dk okX12_just 24 rfl) (by decide) ?_
    refine J_iald (dk okX12_just 25 rfl) ds_52 (by unfold vp_in; decide) ?_
    refine J_iand (dk okX12_just 26 rfl) ?_
    have K5 : J E G 4 mX12_just Q 67 [(0, rf E 49), (1, .int x1), (2, .int x2), (3, .int x3), (4, .int x4)] [.int (if (x4 &&& (μ.1 52 (Int32.toNatClampNeg 21))) = 0 then (if (v_X12_loadOf 52 x4 μ) = x1 then 1 else 0 : Int32) else 0 : Int32)] μ := by
      refine J_istore (ls' := [(5, _), (0, _), (1, _), (2, _), (3, _), (4, _)]) (dk okX12_just 38 rfl) (by decide) rfl ?_
      refine J_iload (dk okX12_just 39 rfl) 0 rfl ?_
      have K8 : J E G 4 mX12_just Q 89 [(0, rf E 49), (1, .int x1), (3, .int x3), (4, .int x4), (5, .int (if (x4 &&& (μ.1 52 (Int32.toNatClampNeg 21))) = 0 then (if (v_X12_loadOf 52 x4 μ) = x1 then 1 else 0 : Int32) else 0 : Int32))] [.int (if (if (x4 &&& (μ.1 52 (Int32.toNatClampNeg 21))) = 0 then (if (v_X12_loadOf 52 x4 μ) = x1 then 1 else 0 : Int32) else 0 : Int32) = 0 then x2 else (if (v_X12_isFewer x4 x2) = 0 then x2 else x4 : Int32) : Int32)] μ := by
        refine J_istore_n (ls' := [(2, _), (0, _), (1, _), (3, _), (4, _), (5, _)]) (dk okX12_just 48 rfl) rfl (by decide) rfl ?_
        refine J_iload_n (dk okX12_just 49 rfl) 3 rfl rfl ?_
        refine J_iload (dk okX12_just 50 rfl) 5 rfl ?_
        refine J_callSi (As := [.int (if (x4 &&& (μ.1 52 (Int32.toNatClampNeg 21))) = 0 then (if (v_X12_loadOf 52 x4 μ) = x1 then 1 else 0 : Int32) else 0 : Int32)]) (dk okX12_just 51 rfl) skX12_flag lkX12_137 rfl rfl (Nat.le_of_ble_eq_true rfl) (by decide) (con_X12_flag  ⟨_, rfl, ?_⟩)
        refine J_iadd (dk okX12_just 52 rfl) ?_
        refine J_istore_n (ls' := [(3, _), (2, _), (0, _), (1, _), (4, _), (5, _)]) (dk okX12_just 53 rfl) rfl (by decide) rfl ?_
        refine J_iinc (v := (x4 + 1)) (ls' := [(4, _), (3, _), (2, _), (0, _), (1, _), (5, _)]) (dk okX12_just 54 rfl) 4 rfl rfl (by decide) rfl ?_
        refine J_goto (tgt := 26) (dk okX12_just 55 rfl) (by decide) ?_
        exact J_sub [3, 4, 2, 1, 0] rfl (kb x1 (if (if (x4 &&& (μ.1 52 (Int32.toNatClampNeg 21))) = 0 then (if (v_X12_loadOf 52 x4 μ) = x1 then 1 else 0 : Int32) else 0 : Int32) = 0 then x2 else (if (v_X12_isFewer x4 x2) = 0 then x2 else x4 : Int32) : Int32) (x3 + (v_X12_flag (if (x4 &&& (μ.1 52 (Int32.toNatClampNeg 21))) = 0 then (if (v_X12_loadOf 52 x4 μ) = x1 then 1 else 0 : Int32) else 0 : Int32))) (x4 + 1) (by unfold bd_X12_just_26; first | (simp only [if_neg h1]; done) | (simp only [if_neg h1]; rfl) | rfl))
      refine J_if_eq (tgt := 88) (dk okX12_just 40 rfl) (by decide) (fun h6 => ?_) (fun h6 => ?_)
      · refine J_iload_n (dk okX12_just 47 rfl) 3 rfl rfl ?_
        refine J_sub (ls' := [(0, _), (1, _), (3, _), (4, _), (5, _)]) [1, 2, 4, 5, 0] rfl ?_
        (try simp only [if_pos h6] at K8 ⊢); exact K8
      · refine J_iload (dk okX12_just 41 rfl) 5 rfl ?_
        refine J_iload_n (dk okX12_just 42 rfl) 3 rfl rfl ?_
        refine J_callSi (As := [.int x4, .int x2]) (dk okX12_just 43 rfl) skX12_isFewer lkX12_365 rfl rfl (Nat.le_of_ble_eq_true rfl) (by decide) (con_X12_isFewer  ⟨_, rfl, ?_⟩)
        refine J_if_eq (tgt := 88) (dk okX12_just 44 rfl) (by decide) (fun h7 => ?_) (fun h7 => ?_)
        · refine J_iload_n (dk okX12_just 47 rfl) 3 rfl rfl ?_
          refine J_sub (ls' := [(0, _), (1, _), (3, _), (4, _), (5, _)]) [1, 2, 4, 5, 0] rfl ?_
          (try simp only [if_neg h6, if_pos h7] at K8 ⊢); exact K8
        · refine J_iload (dk okX12_just 45 rfl) 5 rfl ?_
          refine J_goto (tgt := 89) (dk okX12_just 46 rfl) (by decide) ?_
          refine J_sub (ls' := [(0, _), (1, _), (3, _), (4, _), (5, _)]) [1, 2, 4, 5, 0] rfl ?_
          (try simp only [if_neg h6, if_neg h7] at K8 ⊢); exact K8
    refine J_if_ne (tgt := 66) (dk okX12_just 27 rfl) (by decide) (fun h2 => ?_) (fun h2 => ?_)
    · refine J_iconst (v := 0) (dk okX12_just 37 rfl) (by decide) ?_
      refine J_sub (ls' := [(0, _), (1, _), (2, _), (3, _), (4, _)]) [0, 1, 2, 3, 4] rfl ?_
      (try simp only [if_neg h2] at K5 ⊢); exact K5
    · have t := t h2
      refine J_aload_n (dk okX12_just 28 rfl) 0 rfl rfl ?_
      refine J_aload_n (dk okX12_just 29 rfl) 0 rfl rfl ?_
      refine J_getR (dk okX12_just 30 rfl) kfX12_32 ds_49 rfl ?_
      refine J_iload (dk okX12_just 31 rfl) 4 rfl ?_
      have s3 := t
      refine J_callVi (As := [rf E 52, .int x4]) (dk okX12_just 32 rfl) ds_49 rfl vkX12_loadOf lkX12_343 rfl rfl (Nat.le_of_ble_eq_true rfl) (by decide) (con_X12_loadOf ds_52 s3 ⟨_, rfl, ?_⟩)
      refine J_iload_n (dk okX12_just 33 rfl) 1 rfl rfl ?_
      refine J_icmp_ne (tgt := 66) (dk okX12_just 34 rfl) (by decide) (fun h4 => ?_) (fun h4 => ?_)
      · refine J_iconst (v := 0) (dk okX12_just 37 rfl) (by decide) ?_
        refine J_sub (ls' := [(0, _), (1, _), (2, _), (3, _), (4, _)]) [0, 1, 2, 3, 4] rfl ?_
        (try simp only [if_pos h2, if_neg h4] at K5 ⊢); exact K5
      · refine J_iconst (v := 1) (dk okX12_just 35 rfl) (by decide) ?_
        refine J_goto (tgt := 67) (dk okX12_just 36 rfl) (by decide) ?_
        refine J_sub (ls' := [(0, _), (1, _), (2, _), (3, _), (4, _)]) [0, 1, 2, 3, 4] rfl ?_
        (try simp only [if_pos h2, if_pos h4] at K5 ⊢); exact K5
/-- VotingFloorModel.just(I)I -/
noncomputable def v_X12_just (p0 : Int32) (μ : Mm) : Int32 := (let μ1 : Mm := (upI μ 49 0 0); (if (v_X12_in (Int32.toInt64 p0) 0 99) = 0 then (-1) else (let r4 : Int32 × Int32 := whl (fun s : Int32 × Int32 × Int32 × Int32 => bd_X12_just_26  μ1 s.1 s.2.1 s.2.2.1 s.2.2.2) (fun _ : Int32 × Int32 × Int32 × Int32 => (0, 0)) FU (p0, (-1), 0, 0); (v_X12_entersFewest (r4.1)))))
noncomputable def e_X12_just (p0 : Int32) (μ : Mm) : Mm := (let μ1 : Mm := (upI μ 49 0 0); (if (v_X12_in (Int32.toInt64 p0) 0 99) = 0 then μ1 else (let r4 : Int32 × Int32 := whl (fun s : Int32 × Int32 × Int32 × Int32 => bd_X12_just_26  μ1 s.1 s.2.1 s.2.2.1 s.2.2.2) (fun _ : Int32 × Int32 × Int32 × Int32 => (0, 0)) FU (p0, (-1), 0, 0); (let μ6 : Mm := (e_X12_entersFewest (r4.1) μ1); (let μ10 : Mm := (if (r4.1) < 0 then μ6 else ((e_X12_enters (Int32.toInt64 (r4.2)) μ6)) : Mm); μ10)))))
def p_X12_just (p0 : Int32)  (μ : Mm) : Prop := (∀ μ1 : Mm, μ1 = (upI μ 49 0 0) → (¬ ((v_X12_in (Int32.toInt64 p0) 0 99) = 0) → (whP (fun s : Int32 × Int32 × Int32 × Int32 => bd_X12_just_26  μ1 s.1 s.2.1 s.2.2.1 s.2.2.2) (fun s : Int32 × Int32 × Int32 × Int32 => sd_X12_just_26   μ1 s.1 s.2.1 s.2.2.1 s.2.2.2) FU (p0, (-1), 0, 0)) ∧ (∀ r4 : Int32 × Int32, r4 = whl (fun s : Int32 × Int32 × Int32 × Int32 => bd_X12_just_26  μ1 s.1 s.2.1 s.2.2.1 s.2.2.2) (fun _ : Int32 × Int32 × Int32 × Int32 => (0, 0)) FU (p0, (-1), 0, 0) → (p_X12_entersFewest (r4.1) μ1) ∧ (∀ μ6 : Mm, μ6 = (e_X12_entersFewest (r4.1) μ1) → (¬ ((r4.1) < 0) → p_X12_enters (Int32.toInt64 (r4.2)) μ6)))))
set_option maxRecDepth 20000 in
set_option maxHeartbeats 4000000 in
theorem con_X12_just {E : Ex} {Q : Option Value → Mm → Prop} {p0 : Int32} {μ : Mm} (t : p_X12_just p0  μ) (k : Q (some (.int (v_X12_just p0 μ))) (e_X12_just p0 μ)) : Con E 4 mX12_just [rf E 49, .int p0] μ Q := by
  refine Con_J (by decide +kernel) (Nat.le_of_ble_eq_true rfl) (fun G => ?_)
  unfold v_X12_just e_X12_just at k
  unfold p_X12_just at t
  refine J_sub (ls' := [(0, rf E 49), (1, .int p0)]) [0, 1] rfl ?_
  refine J_aload_n (dk okX12_just 0 rfl) 0 rfl rfl ?_
  refine J_iconst (v := 0) (dk okX12_just 1 rfl) (by decide) ?_
  refine J_put (dk okX12_just 2 rfl) kpX12_3 ds_49 rfl rfl rfl ?_
  refine J_nm (fun μ1 eμ1 => ?_)
  have t := t μ1 eμ1
  refine J_iload_n (dk okX12_just 3 rfl) 1 rfl rfl ?_
  refine J_i2l (dk okX12_just 4 rfl) ?_
  refine J_lconst (v := 0) (dk okX12_just 5 rfl) (by decide) ?_
  refine J_ldc2 (v := 99) (dk okX12_just 6 rfl) kcX12_384 ?_
  refine J_callSi (As := [.long (Int32.toInt64 p0), .long 0, .long 99]) (dk okX12_just 7 rfl) skX12_in lkX12_114 rfl rfl (Nat.le_of_ble_eq_true rfl) (by decide) (con_X12_in  ⟨_, rfl, ?_⟩)
  refine J_if_ne (tgt := 19) (dk okX12_just 8 rfl) (by decide) (fun h2 => ?_) (fun h2 => ?_)
  · have t := t h2
    refine J_iconst (v := (-1)) (dk okX12_just 11 rfl) (by decide) ?_
    refine J_istore_n (ls' := [(2, _), (0, _), (1, _)]) (dk okX12_just 12 rfl) rfl (by decide) rfl ?_
    refine J_iconst (v := 0) (dk okX12_just 13 rfl) (by decide) ?_
    refine J_istore_n (ls' := [(3, _), (2, _), (0, _), (1, _)]) (dk okX12_just 14 rfl) rfl (by decide) rfl ?_
    refine J_iconst (v := 0) (dk okX12_just 15 rfl) (by decide) ?_
    refine J_istore (ls' := [(4, _), (3, _), (2, _), (0, _), (1, _)]) (dk okX12_just 16 rfl) (by decide) rfl ?_
    obtain ⟨s3, t⟩ := t
    refine J_sub (ls' := [(0, _), (1, _), (2, _), (3, _), (4, _)]) [3, 4, 2, 1, 0] rfl ?_
    refine lw_X12_just_26  s3 (fun r4 er4 => ?_)
    have t := t r4 er4
    refine J_aload_n (dk okX12_just 56 rfl) 0 rfl rfl ?_
    refine J_iload_n (dk okX12_just 57 rfl) 1 rfl rfl ?_
    obtain ⟨s5, t⟩ := t
    refine J_callVi (As := [.int (r4.1)]) (dk okX12_just 58 rfl) ds_49 rfl vkX12_entersFewest lkX12_368 rfl rfl (Nat.le_of_ble_eq_true rfl) (by decide) (con_X12_entersFewest s5 ⟨_, rfl, ?_⟩)
    refine J_nm (fun μ6 eμ6 => ?_)
    have t := t μ6 eμ6
    refine J_istore (ls' := [(4, _), (0, _), (2, _), (3, _)]) (dk okX12_just 59 rfl) (by decide) rfl ?_
    refine J_iload_n (dk okX12_just 60 rfl) 2 rfl rfl ?_
    have K11 : J E G 4 mX12_just Q 121 [(4, .int (v_X12_entersFewest (r4.1)))] [] (if (r4.1) < 0 then μ6 else ((e_X12_enters (Int32.toInt64 (r4.2)) μ6)) : Mm) := by
      refine J_nm (fun μ10 eμ10 => ?_)
      refine J_iload (dk okX12_just 66 rfl) 0 rfl ?_
      subst eμ10 eμ6 er4 eμ1
      (try simp only [if_neg h2] at k ⊢)
      exact J_iret (dk okX12_just 67 rfl) rfl k
    refine J_if_lt (tgt := 121) (dk okX12_just 61 rfl) (by decide) (fun h7 => ?_) (fun h7 => ?_)
    · refine J_sub (ls' := [(4, _)]) [0] rfl ?_
      (try simp only [if_pos h7] at K11 ⊢); exact K11
    · have t := t h7
      refine J_aload_n (dk okX12_just 62 rfl) 1 rfl rfl ?_
      refine J_iload_n (dk okX12_just 63 rfl) 3 rfl rfl ?_
      refine J_i2l (dk okX12_just 64 rfl) ?_
      have s8 := t
      refine J_callVv (As := [.long (Int32.toInt64 (r4.2))]) (dk okX12_just 65 rfl) ds_49 rfl vkX12_enters lkX12_18 rfl rfl (Nat.le_of_ble_eq_true rfl) (by decide) (con_X12_enters s8 ⟨rfl, ?_⟩)
      refine J_nm (fun μ9 eμ9 => ?_)
      subst eμ9
      refine J_sub (ls' := [(4, _)]) [0] rfl ?_
      (try simp only [if_neg h7] at K11 ⊢); exact K11
  · refine J_iconst (v := (-1)) (dk okX12_just 9 rfl) (by decide) ?_
    subst eμ1
    (try simp only [if_pos h2] at k ⊢)
    exact J_iret (dk okX12_just 10 rfl) rfl k
/-- VotingFloorModel.leads(II)I -/
noncomputable def v_X12_leads (p0 : Int32) (p1 : Int32) (μ : Mm) : Int32 := (let μ1 : Mm := (upI μ 49 0 0); (let μ3 : Mm := (e_X12_putsBy  μ1); (let μ5 : Mm := (e_X12_leadsTo p0 p1 μ3); (v_X12_counted (v_X12_leadsTo p0 p1 μ3) μ5))))
noncomputable def e_X12_leads (p0 : Int32) (p1 : Int32) (μ : Mm) : Mm := (let μ1 : Mm := (upI μ 49 0 0); (let μ3 : Mm := (e_X12_putsBy  μ1); (let μ5 : Mm := (e_X12_leadsTo p0 p1 μ3); (let μ7 : Mm := (e_X12_counted (v_X12_leadsTo p0 p1 μ3) μ5); μ7))))
def p_X12_leads (p0 : Int32) (p1 : Int32)  (μ : Mm) : Prop := (∀ μ1 : Mm, μ1 = (upI μ 49 0 0) → (p_X12_putsBy μ1) ∧ (∀ μ3 : Mm, μ3 = (e_X12_putsBy  μ1) → (p_X12_leadsTo p0 p1 μ3) ∧ (∀ μ5 : Mm, μ5 = (e_X12_leadsTo p0 p1 μ3) → p_X12_counted (v_X12_leadsTo p0 p1 μ3) μ5)))
set_option maxRecDepth 20000 in
set_option maxHeartbeats 4000000 in
theorem con_X12_leads {E : Ex} {Q : Option Value → Mm → Prop} {p0 : Int32} {p1 : Int32} {μ : Mm} (t : p_X12_leads p0 p1  μ) (k : Q (some (.int (v_X12_leads p0 p1 μ))) (e_X12_leads p0 p1 μ)) : Con E 4 mX12_leads [rf E 49, .int p0, .int p1] μ Q := by
  refine Con_J (by decide +kernel) (Nat.le_of_ble_eq_true rfl) (fun G => ?_)
  unfold v_X12_leads e_X12_leads at k
  unfold p_X12_leads at t
  refine J_sub (ls' := [(0, rf E 49), (1, .int p0), (2, .int p1)]) [0, 1, 2] rfl ?_
  refine J_aload_n (dk okX12_leads 0 rfl) 0 rfl rfl ?_
  refine J_iconst (v := 0) (dk okX12_leads 1 rfl) (by decide) ?_
  refine J_put (dk okX12_leads 2 rfl) kpX12_3 ds_49 rfl rfl rfl ?_
  refine J_nm (fun μ1 eμ1 => ?_)
  have t := t μ1 eμ1
  refine J_aload_n (dk okX12_leads 3 rfl) 0 rfl rfl ?_
  obtain ⟨s2, t⟩ := t
  refine J_callVv (As := []) (dk okX12_leads 4 rfl) ds_49 rfl vkX12_putsBy lkX12_306 rfl rfl (Nat.le_of_ble_eq_true rfl) (by decide) (con_X12_putsBy s2 ⟨rfl, ?_⟩)
  refine J_nm (fun μ3 eμ3 => ?_)
  have t := t μ3 eμ3
  refine J_aload_n (dk okX12_leads 5 rfl) 0 rfl rfl ?_
  refine J_aload_n (dk okX12_leads 6 rfl) 0 rfl rfl ?_
  refine J_iload_n (dk okX12_leads 7 rfl) 1 rfl rfl ?_
  refine J_iload_n (dk okX12_leads 8 rfl) 2 rfl rfl ?_
  obtain ⟨s4, t⟩ := t
  refine J_callVi (As := [.int p0, .int p1]) (dk okX12_leads 9 rfl) ds_49 rfl vkX12_leadsTo lkX12_315 rfl rfl (Nat.le_of_ble_eq_true rfl) (by decide) (con_X12_leadsTo s4 ⟨_, rfl, ?_⟩)
  refine J_nm (fun μ5 eμ5 => ?_)
  have t := t μ5 eμ5
  have s6 := t
  refine J_callVi (As := [.int (v_X12_leadsTo p0 p1 μ3)]) (dk okX12_leads 10 rfl) ds_49 rfl vkX12_counted lkX12_318 rfl rfl (Nat.le_of_ble_eq_true rfl) (by decide) (con_X12_counted s6 ⟨_, rfl, ?_⟩)
  refine J_nm (fun μ7 eμ7 => ?_)
  subst eμ7 eμ5 eμ3 eμ1
  exact J_iret (dk okX12_leads 11 rfl) rfl k
noncomputable def bd_X12_line_21  (x1 : Int32) (x2 : Int32) (μ : Mm) : (Int32 × Int32 × Mm) ⊕ (Int32 × Mm) := (if (μ.1 49 3) ≤ x2 then .inr (x1, μ) else (let μ6 : Mm := (if (v_X12_has (v_X12_standingOn 52 x1 μ) x2) = 0 then μ else ((e_X12_enters (Int32.toInt64 x2) μ)) : Mm); .inl (x1, (x2 + 1), μ6)))
def sd_X12_line_21   (x1 : Int32) (x2 : Int32) (μ : Mm) : Prop := (¬ ((μ.1 49 3) ≤ x2) → (p_X12_standingOn 52 x1 μ) ∧ (¬ ((v_X12_has (v_X12_standingOn 52 x1 μ) x2) = 0) → p_X12_enters (Int32.toInt64 x2) μ))
set_option maxRecDepth 20000 in
set_option maxHeartbeats 4000000 in
theorem lw_X12_line_21 {E : Ex} {G : Gx} {Q : Option Value → Mm → Prop} {x1 : Int32} {x2 : Int32} {μ : Mm}  (p : whP (fun s : Int32 × Int32 × Mm => bd_X12_line_21  s.1 s.2.1 s.2.2) (fun s : Int32 × Int32 × Mm => sd_X12_line_21   s.1 s.2.1 s.2.2) FU (x1, x2, μ)) (k : ∀ r : Int32 × Mm, r = whl (fun s : Int32 × Int32 × Mm => bd_X12_line_21  s.1 s.2.1 s.2.2) (fun s : Int32 × Int32 × Mm => (0, s.2.2)) FU (x1, x2, μ) → J E G 4 mX12_line Q 57 [(0, rf E 49), (1, .int (r.1))] [] (r.2)) : J E G 4 mX12_line Q 21 [(0, rf E 49), (1, .int x1), (2, .int x2)] [] μ := by
  refine J_whl (f := (fun s : Int32 × Int32 × Mm => bd_X12_line_21  s.1 s.2.1 s.2.2)) (dd := (fun s : Int32 × Int32 × Mm => (0, s.2.2))) (sd := (fun s : Int32 × Int32 × Mm => sd_X12_line_21   s.1 s.2.1 s.2.2)) (P := fun s : Int32 × Int32 × Mm => J E G 4 mX12_line Q 21 [(0, rf E 49), (1, .int (s.1)), (2, .int (s.2.1))] [] (s.2.2)) (R := fun r : Int32 × Mm => J E G 4 mX12_line Q 57 [(0, rf E 49), (1, .int (r.1))] [] (r.2)) ?_ FU (x1, x2, μ) p (k _ rfl)
  clear p k
  rintro ⟨x1, x2, μ⟩ t k1 k2
  dsimp only [sd_X12_line_21] at t
  have kb : ∀ (y1 : Int32) (y2 : Int32) (μ9 : Mm), bd_X12_line_21  x1 x2 μ = .inl (y1, y2, μ9) → J E G 4 mX12_line Q 21 [(0, rf E 49), (1, .int y1), (2, .int y2)] [] μ9 := fun y1 y2 μ9 h => k1 (y1, y2, μ9) h
  have kx : ∀ (y1 : Int32) (μ9 : Mm), bd_X12_line_21  x1 x2 μ = .inr (y1, μ9) → J E G 4 mX12_line Q 57 [(0, rf E 49), (1, .int y1)] [] μ9 := fun y1 μ9 h => k2 (y1, μ9) h
  clear k1 k2
  refine J_iload_n (dk okX12_line 13 rfl) 2 rfl rfl ?_
  refine J_aload_n (dk okX12_line 14 rfl) 0 rfl rfl ?_
  refine J_getI (dk okX12_line 15 rfl) kfX12_111 ds_49 rfl ?_
  refine J_icmp_ge (tgt := 57) (dk okX12_line 16 rfl) (by decide) (fun h1 => ?_) (fun h1 => ?_)
  · exact J_sub [0, 1] rfl (kx x1 μ (by unfold bd_X12_line_21; first | (simp only [if_pos h1]; done) | (simp only [if_pos h1]; rfl) | rfl))
  · have t := t h1
    refine J_aload_n (dk okX12_line 17 rfl) 0 rfl rfl ?_
    refine J_aload_n (dk okX12_line 18 rfl) 0 rfl rfl ?_
    refine J_getR (dk okX12_line 19 rfl) kfX12_32 ds_49 rfl ?_
    refine J_iload_n (dk okX12_line 20 rfl) 1 rfl rfl ?_
    obtain ⟨s2, t⟩ := t
    refine J_callVi (As := [rf E 52, .int x1]) (dk okX12_line 21 rfl) ds_49 rfl vkX12_standingOn lkX12_312 rfl rfl (Nat.le_of_ble_eq_true rfl) (by decide) (con_X12_standingOn ds_52 s2 ⟨_, rfl, ?_⟩)
    refine J_iload_n (dk okX12_line 22 rfl) 2 rfl rfl ?_
    refine J_callSi (As := [.int (v_X12_standingOn 52 x1 μ), .int x2]) (dk okX12_line 23 rfl) skX12_has lkX12_126 rfl rfl (Nat.le_of_ble_eq_true rfl) (by decide) (con_X12_has  ⟨_, rfl, ?_⟩)
    have K7 : J E G 4 mX12_line Q 51 [(0, rf E 49), (1, .int x1), (2, .int x2)] [] (if (v_X12_has (v_X12_standingOn 52 x1 μ) x2) = 0 then μ else ((e_X12_enters (Int32.toInt64 x2) μ)) : Mm) := by
      refine J_nm (fun μ6 eμ6 => ?_)
      refine J_iinc (v := (x2 + 1)) (ls' := [(2, _), (0, _), (1, _)]) (dk okX12_line 29 rfl) 2 rfl rfl (by decide) rfl ?_
      refine J_goto (tgt := 21) (dk okX12_line 30 rfl) (by decide) ?_
      exact J_sub [1, 2, 0] rfl (kb x1 (x2 + 1) μ6 (by subst eμ6; unfold bd_X12_line_21; first | (simp only [if_neg h1]; done) | (simp only [if_neg h1]; rfl) | rfl))
    refine J_if_eq (tgt := 51) (dk okX12_line 24 rfl) (by decide) (fun h3 => ?_) (fun h3 => ?_)
    · refine J_sub (ls' := [(0, _), (1, _), (2, _)]) [0, 1, 2] rfl ?_
      (try simp only [if_pos h3] at K7 ⊢); exact K7
    · have t := t h3
      refine J_aload_n (dk okX12_line 25 rfl) 0 rfl rfl ?_
      refine J_iload_n (dk okX12_line 26 rfl) 2 rfl rfl ?_
      refine J_i2l (dk okX12_line 27 rfl) ?_
      have s4 := t
      refine J_callVv (As := [.long (Int32.toInt64 x2)]) (dk okX12_line 28 rfl) ds_49 rfl vkX12_enters lkX12_18 rfl rfl (Nat.le_of_ble_eq_true rfl) (by decide) (con_X12_enters s4 ⟨rfl, ?_⟩)
      refine J_nm (fun μ5 eμ5 => ?_)
      subst eμ5
      refine J_sub (ls' := [(0, _), (1, _), (2, _)]) [0, 1, 2] rfl ?_
      (try simp only [if_neg h3] at K7 ⊢); exact K7
noncomputable def bd_X12_line_13  (x1 : Int32) (μ : Mm) : (Int32 × Mm) ⊕ (Mm) := (if 9 < x1 then .inr μ else (let r3 : Int32 × Mm := whl (fun s : Int32 × Int32 × Mm => bd_X12_line_21  s.1 s.2.1 s.2.2) (fun s : Int32 × Int32 × Mm => (0, s.2.2)) FU (x1, 0, μ); .inl (((r3.1) + 1), (r3.2))))
def sd_X12_line_13   (x1 : Int32) (μ : Mm) : Prop := (¬ (9 < x1) → whP (fun s : Int32 × Int32 × Mm => bd_X12_line_21  s.1 s.2.1 s.2.2) (fun s : Int32 × Int32 × Mm => sd_X12_line_21   s.1 s.2.1 s.2.2) FU (x1, 0, μ))
set_option maxRecDepth 20000 in
set_option maxHeartbeats 4000000 in
theorem lw_X12_line_13 {E : Ex} {G : Gx} {Q : Option Value → Mm → Prop} {x1 : Int32} {μ : Mm}  (p : whP (fun s : Int32 × Mm => bd_X12_line_13  s.1 s.2) (fun s : Int32 × Mm => sd_X12_line_13   s.1 s.2) FU (x1, μ)) (k : ∀ r : Mm, r = whl (fun s : Int32 × Mm => bd_X12_line_13  s.1 s.2) (fun s : Int32 × Mm => s.2) FU (x1, μ) → J E G 4 mX12_line Q 63 [(0, rf E 49)] [] r) : J E G 4 mX12_line Q 13 [(0, rf E 49), (1, .int x1)] [] μ := by
  refine J_whl (f := (fun s : Int32 × Mm => bd_X12_line_13  s.1 s.2)) (dd := (fun s : Int32 × Mm => s.2)) (sd := (fun s : Int32 × Mm => sd_X12_line_13   s.1 s.2)) (P := fun s : Int32 × Mm => J E G 4 mX12_line Q 13 [(0, rf E 49), (1, .int (s.1))] [] (s.2)) (R := fun r : Mm => J E G 4 mX12_line Q 63 [(0, rf E 49)] [] r) ?_ FU (x1, μ) p (k _ rfl)
  clear p k
  rintro ⟨x1, μ⟩ t k1 k2
  dsimp only [sd_X12_line_13] at t
  have kb : ∀ (y1 : Int32) (μ9 : Mm), bd_X12_line_13  x1 μ = .inl (y1, μ9) → J E G 4 mX12_line Q 13 [(0, rf E 49), (1, .int y1)] [] μ9 := fun y1 μ9 h => k1 (y1, μ9) h
  have kx : ∀  (μ9 : Mm), bd_X12_line_13  x1 μ = .inr μ9 → J E G 4 mX12_line Q 63 [(0, rf E 49)] [] μ9 := fun  μ9 h => k2 μ9 h
  clear k1 k2
  refine J_iload_n (dk okX12_line 8 rfl) 1 rfl rfl ?_
  refine J_bipush (v := 9) (dk okX12_line 9 rfl) (by decide) ?_
  refine J_icmp_gt (tgt := 63) (dk okX12_line 10 rfl) (by decide) (fun h1 => ?_) (fun h1 => ?_)
  · exact J_sub [0] rfl (kx μ (by unfold bd_X12_line_13; first | (simp only [if_pos h1]; done) | (simp only [if_pos h1]; rfl) | rfl))
  · have t := t h1
    refine J_iconst (v := 0) (dk okX12_line 11 rfl) (by decide) ?_
    refine J_istore_n (ls' := [(2, _), (0, _), (1, _)]) (dk okX12_line 12 rfl) rfl (by decide) rfl ?_
    have s2 := t
    refine J_sub (ls' := [(0, _), (1, _), (2, _)]) [1, 2, 0] rfl ?_
    refine lw_X12_line_21  s2 (fun r3 er3 => ?_)
    refine J_iinc (v := ((r3.1) + 1)) (ls' := [(1, _), (0, _)]) (dk okX12_line 31 rfl) 1 rfl rfl (by decide) rfl ?_
    refine J_goto (tgt := 13) (dk okX12_line 32 rfl) (by decide) ?_
    exact J_sub [1, 0] rfl (kb ((r3.1) + 1) (r3.2) (by subst er3; unfold bd_X12_line_13; first | (simp only [if_neg h1]; done) | (simp only [if_neg h1]; rfl) | rfl))
/-- VotingFloorModel.line()I -/
noncomputable def v_X12_line  (μ : Mm) : Int32 := (let μ1 : Mm := (upI μ 49 0 0); (let μ2 : Mm := (upI μ1 49 1 0); (let r4 : Mm := whl (fun s : Int32 × Mm => bd_X12_line_13  s.1 s.2) (fun s : Int32 × Mm => s.2) FU ((-9), μ2); (r4.1 49 1))))
noncomputable def e_X12_line  (μ : Mm) : Mm := (let μ1 : Mm := (upI μ 49 0 0); (let μ2 : Mm := (upI μ1 49 1 0); (let r4 : Mm := whl (fun s : Int32 × Mm => bd_X12_line_13  s.1 s.2) (fun s : Int32 × Mm => s.2) FU ((-9), μ2); r4)))
def p_X12_line   (μ : Mm) : Prop := (∀ μ1 : Mm, μ1 = (upI μ 49 0 0) → (∀ μ2 : Mm, μ2 = (upI μ1 49 1 0) → whP (fun s : Int32 × Mm => bd_X12_line_13  s.1 s.2) (fun s : Int32 × Mm => sd_X12_line_13   s.1 s.2) FU ((-9), μ2)))
set_option maxRecDepth 20000 in
set_option maxHeartbeats 4000000 in
theorem con_X12_line {E : Ex} {Q : Option Value → Mm → Prop} {μ : Mm} (t : p_X12_line   μ) (k : Q (some (.int (v_X12_line  μ))) (e_X12_line  μ)) : Con E 4 mX12_line [rf E 49] μ Q := by
  refine Con_J (by decide +kernel) (Nat.le_of_ble_eq_true rfl) (fun G => ?_)
  unfold v_X12_line e_X12_line at k
  unfold p_X12_line at t
  refine J_sub (ls' := [(0, rf E 49)]) [0] rfl ?_
  refine J_aload_n (dk okX12_line 0 rfl) 0 rfl rfl ?_
  refine J_iconst (v := 0) (dk okX12_line 1 rfl) (by decide) ?_
  refine J_put (dk okX12_line 2 rfl) kpX12_3 ds_49 rfl rfl rfl ?_
  refine J_nm (fun μ1 eμ1 => ?_)
  have t := t μ1 eμ1
  refine J_aload_n (dk okX12_line 3 rfl) 0 rfl rfl ?_
  refine J_iconst (v := 0) (dk okX12_line 4 rfl) (by decide) ?_
  refine J_put (dk okX12_line 5 rfl) kpX12_15 ds_49 rfl rfl rfl ?_
  refine J_nm (fun μ2 eμ2 => ?_)
  have t := t μ2 eμ2
  refine J_bipush (v := (-9)) (dk okX12_line 6 rfl) (by decide) ?_
  refine J_istore_n (ls' := [(1, _), (0, _)]) (dk okX12_line 7 rfl) rfl (by decide) rfl ?_
  have s3 := t
  refine J_sub (ls' := [(0, _), (1, _)]) [1, 0] rfl ?_
  refine lw_X12_line_13  s3 (fun r4 er4 => ?_)
  refine J_aload_n (dk okX12_line 33 rfl) 0 rfl rfl ?_
  refine J_getI (dk okX12_line 34 rfl) kfX12_15 ds_49 rfl ?_
  subst er4 eμ2 eμ1
  exact J_iret (dk okX12_line 35 rfl) rfl k
/-- VotingFloorModel.moment([I)I -/
noncomputable def v_X12_moment (p0 : Nat) (μ : Mm) : Int32 := (v_X12_momentOf p0 (v_X12_all  μ) μ)
def p_X12_moment (p0 : Nat)  (μ : Mm) : Prop := p_X12_momentOf p0 (v_X12_all μ) μ
set_option maxRecDepth 20000 in
set_option maxHeartbeats 4000000 in
theorem con_X12_moment {E : Ex} {Q : Option Value → Mm → Prop} {p0 : Nat} {μ : Mm} (hp0 : dscL[p0]? = some (.inr (.inl (1, 24)))) (t : p_X12_moment p0  μ) (k : Q (some (.int (v_X12_moment p0 μ))) μ) : Con E 4 mX12_moment [rf E 49, rf E p0] μ Q := by
  refine Con_J (by decide +kernel) (Nat.le_of_ble_eq_true rfl) (fun G => ?_)
  unfold v_X12_moment at k
  unfold p_X12_moment at t
  refine J_sub (ls' := [(0, rf E 49), (1, rf E p0)]) [0, 1] rfl ?_
  refine J_aload_n (dk okX12_moment 0 rfl) 0 rfl rfl ?_
  refine J_aload_n (dk okX12_moment 1 rfl) 1 rfl rfl ?_
  refine J_aload_n (dk okX12_moment 2 rfl) 0 rfl rfl ?_
  refine J_callVi (As := []) (dk okX12_moment 3 rfl) ds_49 rfl vkX12_all lkX12_118 rfl rfl (Nat.le_of_ble_eq_true rfl) (by decide) (con_X12_all  ⟨_, rfl, ?_⟩)
  have s1 := t
  refine J_callVi (As := [rf E p0, .int (v_X12_all  μ)]) (dk okX12_moment 4 rfl) ds_49 rfl vkX12_momentOf lkX12_134 rfl rfl (Nat.le_of_ble_eq_true rfl) (by decide) (con_X12_momentOf hp0 s1 ⟨_, rfl, ?_⟩)
  exact J_iret (dk okX12_moment 5 rfl) rfl k
/-- VotingFloorModel.sacks(II)I -/
noncomputable def v_X12_sacks (p0 : Int32) (p1 : Int32) (μ : Mm) : Int32 := (let μ1 : Mm := (upI μ 49 0 0); (let μ3 : Mm := (e_X12_putsBy  μ1); (let μ5 : Mm := (e_X12_sacksTo p0 p1 μ3); (v_X12_counted (v_X12_sacksTo p0 p1 μ3) μ5))))
noncomputable def e_X12_sacks (p0 : Int32) (p1 : Int32) (μ : Mm) : Mm := (let μ1 : Mm := (upI μ 49 0 0); (let μ3 : Mm := (e_X12_putsBy  μ1); (let μ5 : Mm := (e_X12_sacksTo p0 p1 μ3); (let μ7 : Mm := (e_X12_counted (v_X12_sacksTo p0 p1 μ3) μ5); μ7))))
def p_X12_sacks (p0 : Int32) (p1 : Int32)  (μ : Mm) : Prop := (∀ μ1 : Mm, μ1 = (upI μ 49 0 0) → (p_X12_putsBy μ1) ∧ (∀ μ3 : Mm, μ3 = (e_X12_putsBy  μ1) → (p_X12_sacksTo p0 p1 μ3) ∧ (∀ μ5 : Mm, μ5 = (e_X12_sacksTo p0 p1 μ3) → p_X12_counted (v_X12_sacksTo p0 p1 μ3) μ5)))
set_option maxRecDepth 20000 in
set_option maxHeartbeats 4000000 in
theorem con_X12_sacks {E : Ex} {Q : Option Value → Mm → Prop} {p0 : Int32} {p1 : Int32} {μ : Mm} (t : p_X12_sacks p0 p1  μ) (k : Q (some (.int (v_X12_sacks p0 p1 μ))) (e_X12_sacks p0 p1 μ)) : Con E 4 mX12_sacks [rf E 49, .int p0, .int p1] μ Q := by
  refine Con_J (by decide +kernel) (Nat.le_of_ble_eq_true rfl) (fun G => ?_)
  unfold v_X12_sacks e_X12_sacks at k
  unfold p_X12_sacks at t
  refine J_sub (ls' := [(0, rf E 49), (1, .int p0), (2, .int p1)]) [0, 1, 2] rfl ?_
  refine J_aload_n (dk okX12_sacks 0 rfl) 0 rfl rfl ?_
  refine J_iconst (v := 0) (dk okX12_sacks 1 rfl) (by decide) ?_
  refine J_put (dk okX12_sacks 2 rfl) kpX12_3 ds_49 rfl rfl rfl ?_
  refine J_nm (fun μ1 eμ1 => ?_)
  have t := t μ1 eμ1
  refine J_aload_n (dk okX12_sacks 3 rfl) 0 rfl rfl ?_
  obtain ⟨s2, t⟩ := t
  refine J_callVv (As := []) (dk okX12_sacks 4 rfl) ds_49 rfl vkX12_putsBy lkX12_306 rfl rfl (Nat.le_of_ble_eq_true rfl) (by decide) (con_X12_putsBy s2 ⟨rfl, ?_⟩)
  refine J_nm (fun μ3 eμ3 => ?_)
  have t := t μ3 eμ3
  refine J_aload_n (dk okX12_sacks 5 rfl) 0 rfl rfl ?_
  refine J_aload_n (dk okX12_sacks 6 rfl) 0 rfl rfl ?_
  refine J_iload_n (dk okX12_sacks 7 rfl) 1 rfl rfl ?_
  refine J_iload_n (dk okX12_sacks 8 rfl) 2 rfl rfl ?_
  obtain ⟨s4, t⟩ := t
  refine J_callVi (As := [.int p0, .int p1]) (dk okX12_sacks 9 rfl) ds_49 rfl vkX12_sacksTo lkX12_321 rfl rfl (Nat.le_of_ble_eq_true rfl) (by decide) (con_X12_sacksTo s4 ⟨_, rfl, ?_⟩)
  refine J_nm (fun μ5 eμ5 => ?_)
  have t := t μ5 eμ5
  have s6 := t
  refine J_callVi (As := [.int (v_X12_sacksTo p0 p1 μ3)]) (dk okX12_sacks 10 rfl) ds_49 rfl vkX12_counted lkX12_318 rfl rfl (Nat.le_of_ble_eq_true rfl) (by decide) (con_X12_counted s6 ⟨_, rfl, ?_⟩)
  refine J_nm (fun μ7 eμ7 => ?_)
  subst eμ7 eμ5 eμ3 eμ1
  exact J_iret (dk okX12_sacks 11 rfl) rfl k
/-- VotingFloorModel.steps(I)I -/
noncomputable def v_X12_steps (p0 : Int32) (μ : Mm) : Int32 := (let μ1 : Mm := (upI μ 49 0 0); (let μ3 : Mm := (e_X12_putsBy  μ1); (let μ4 : Mm := (e_X12_stepsOff 52 p0 μ3); (v_X12_counted (v_X12_stepsOff 52 p0 μ3) μ4))))
noncomputable def e_X12_steps (p0 : Int32) (μ : Mm) : Mm := (let μ1 : Mm := (upI μ 49 0 0); (let μ3 : Mm := (e_X12_putsBy  μ1); (let μ4 : Mm := (e_X12_stepsOff 52 p0 μ3); (let μ6 : Mm := (e_X12_counted (v_X12_stepsOff 52 p0 μ3) μ4); μ6))))
def p_X12_steps (p0 : Int32)  (μ : Mm) : Prop := (∀ μ1 : Mm, μ1 = (upI μ 49 0 0) → (p_X12_putsBy μ1) ∧ (∀ μ3 : Mm, μ3 = (e_X12_putsBy  μ1) → (∀ μ4 : Mm, μ4 = (e_X12_stepsOff 52 p0 μ3) → p_X12_counted (v_X12_stepsOff 52 p0 μ3) μ4)))
set_option maxRecDepth 20000 in
set_option maxHeartbeats 4000000 in
theorem con_X12_steps {E : Ex} {Q : Option Value → Mm → Prop} {p0 : Int32} {μ : Mm} (t : p_X12_steps p0  μ) (k : Q (some (.int (v_X12_steps p0 μ))) (e_X12_steps p0 μ)) : Con E 4 mX12_steps [rf E 49, .int p0] μ Q := by
  refine Con_J (by decide +kernel) (Nat.le_of_ble_eq_true rfl) (fun G => ?_)
  unfold v_X12_steps e_X12_steps at k
  unfold p_X12_steps at t
  refine J_sub (ls' := [(0, rf E 49), (1, .int p0)]) [0, 1] rfl ?_
  refine J_aload_n (dk okX12_steps 0 rfl) 0 rfl rfl ?_
  refine J_iconst (v := 0) (dk okX12_steps 1 rfl) (by decide) ?_
  refine J_put (dk okX12_steps 2 rfl) kpX12_3 ds_49 rfl rfl rfl ?_
  refine J_nm (fun μ1 eμ1 => ?_)
  have t := t μ1 eμ1
  refine J_aload_n (dk okX12_steps 3 rfl) 0 rfl rfl ?_
  obtain ⟨s2, t⟩ := t
  refine J_callVv (As := []) (dk okX12_steps 4 rfl) ds_49 rfl vkX12_putsBy lkX12_306 rfl rfl (Nat.le_of_ble_eq_true rfl) (by decide) (con_X12_putsBy s2 ⟨rfl, ?_⟩)
  refine J_nm (fun μ3 eμ3 => ?_)
  have t := t μ3 eμ3
  refine J_aload_n (dk okX12_steps 5 rfl) 0 rfl rfl ?_
  refine J_aload_n (dk okX12_steps 6 rfl) 0 rfl rfl ?_
  refine J_aload_n (dk okX12_steps 7 rfl) 0 rfl rfl ?_
  refine J_getR (dk okX12_steps 8 rfl) kfX12_32 ds_49 rfl ?_
  refine J_iload_n (dk okX12_steps 9 rfl) 1 rfl rfl ?_
  refine J_callVi (As := [rf E 52, .int p0]) (dk okX12_steps 10 rfl) ds_49 rfl vkX12_stepsOff lkX12_324 rfl rfl (Nat.le_of_ble_eq_true rfl) (by decide) (con_X12_stepsOff ds_52 ⟨_, rfl, ?_⟩)
  refine J_nm (fun μ4 eμ4 => ?_)
  have t := t μ4 eμ4
  have s5 := t
  refine J_callVi (As := [.int (v_X12_stepsOff 52 p0 μ3)]) (dk okX12_steps 11 rfl) ds_49 rfl vkX12_counted lkX12_318 rfl rfl (Nat.le_of_ble_eq_true rfl) (by decide) (con_X12_counted s5 ⟨_, rfl, ?_⟩)
  refine J_nm (fun μ6 eμ6 => ?_)
  subst eμ6 eμ4 eμ3 eμ1
  exact J_iret (dk okX12_steps 12 rfl) rfl k
noncomputable def bd_X12_strongest_15  (μ : Mm) (x1 : Int32) (x2 : Int32) (x3 : Int32) (x4 : Int32) : (Int32 × Int32 × Int32 × Int32) ⊕ (Int32 × Int32 × Int32) := (if (μ.1 49 3) ≤ x4 then .inr (x1, x2, x3) else .inl ((if (if (v_X12_has (μ.1 52 (Int32.toNatClampNeg 21)) x4) = 0 then (v_X12_decidedBy x4 μ) else (-1) : Int32) ≤ x2 then x1 else x4 : Int32), (if x2 < (if (v_X12_has (μ.1 52 (Int32.toNatClampNeg 21)) x4) = 0 then (v_X12_decidedBy x4 μ) else (-1) : Int32) then (if (v_X12_has (μ.1 52 (Int32.toNatClampNeg 21)) x4) = 0 then (v_X12_decidedBy x4 μ) else (-1) : Int32) else x2), (x3 + (if 0 < (if (v_X12_has (μ.1 52 (Int32.toNatClampNeg 21)) x4) = 0 then (v_X12_decidedBy x4 μ) else (-1) : Int32) then (if (v_X12_has (μ.1 52 (Int32.toNatClampNeg 21)) x4) = 0 then (v_X12_decidedBy x4 μ) else (-1) : Int32) else 0)), (x4 + 1)))
def sd_X12_strongest_15   (μ : Mm) (x1 : Int32) (x2 : Int32) (x3 : Int32) (x4 : Int32) : Prop := (¬ ((μ.1 49 3) ≤ x4) → ((v_X12_has (μ.1 52 (Int32.toNatClampNeg 21)) x4) = 0 → p_X12_decidedBy x4 μ))
set_option maxRecDepth 20000 in
set_option maxHeartbeats 4000000 in
theorem lw_X12_strongest_15 {E : Ex} {G : Gx} {Q : Option Value → Mm → Prop} {x1 : Int32} {x2 : Int32} {x3 : Int32} {x4 : Int32} {μ : Mm}  (p : whP (fun s : Int32 × Int32 × Int32 × Int32 => bd_X12_strongest_15  μ s.1 s.2.1 s.2.2.1 s.2.2.2) (fun s : Int32 × Int32 × Int32 × Int32 => sd_X12_strongest_15   μ s.1 s.2.1 s.2.2.1 s.2.2.2) FU (x1, x2, x3, x4)) (k : ∀ r : Int32 × Int32 × Int32, r = whl (fun s : Int32 × Int32 × Int32 × Int32 => bd_X12_strongest_15  μ s.1 s.2.1 s.2.2.1 s.2.2.2) (fun _ : Int32 × Int32 × Int32 × Int32 => (0, 0, 0)) FU (x1, x2, x3, x4) → J E G 4 mX12_strongest Q 86 [(0, rf E 49), (1, .int (r.1)), (2, .int (r.2.1)), (3, .int (r.2.2))] [] μ) : J E G 4 mX12_strongest Q 15 [(0, rf E 49), (1, .int x1), (2, .int x2), (3, .int x3), (4, .int x4)] [] μ := by
  refine J_whl (f := (fun s : Int32 × Int32 × Int32 × Int32 => bd_X12_strongest_15  μ s.1 s.2.1 s.2.2.1 s.2.2.2)) (dd := (fun _ : Int32 × Int32 × Int32 × Int32 => (0, 0, 0))) (sd := (fun s : Int32 × Int32 × Int32 × Int32 => sd_X12_strongest_15   μ s.1 s.2.1 s.2.2.1 s.2.2.2)) (P := fun s : Int32 × Int32 × Int32 × Int32 => J E G 4 mX12_strongest Q 15 [(0, rf E 49), (1, .int (s.1)), (2, .int (s.2.1)), (3, .int (s.2.2.1)), (4, .int (s.2.2.2))] [] (μ)) (R := fun r : Int32 × Int32 × Int32 => J E G 4 mX12_strongest Q 86 [(0, rf E 49), (1, .int (r.1)), (2, .int (r.2.1)), (3, .int (r.2.2))] [] μ) ?_ FU (x1, x2, x3, x4) p (k _ rfl)
  clear p k
  rintro ⟨x1, x2, x3, x4⟩ t k1 k2
  dsimp only [sd_X12_strongest_15] at t
  have kb : ∀ (y1 : Int32) (y2 : Int32) (y3 : Int32) (y4 : Int32) , bd_X12_strongest_15  μ x1 x2 x3 x4 = .inl (y1, y2, y3, y4) → J E G 4 mX12_strongest Q 15 [(0, rf E 49), (1, .int y1), (2, .int y2), (3, .int y3), (4, .int y4)] [] μ := fun y1 y2 y3 y4  h => k1 (y1, y2, y3, y4) h
  have kx : ∀ (y1 : Int32) (y2 : Int32) (y3 : Int32) , bd_X12_strongest_15  μ x1 x2 x3 x4 = .inr (y1, y2, y3) → J E G 4 mX12_strongest Q 86 [(0, rf E 49), (1, .int y1), (2, .int y2), (3, .int y3)] [] μ := fun y1 y2 y3  h => k2 (y1, y2, y3) h
  clear k1 k2
  refine J_iload (dk okX12_strongest 11 rfl) 4 rfl ?_
  refine J_aload_n (dk okX12_strongest 12 rfl) 0 rfl rfl ?_
  refine J_getI (dk okX12_strongest 13 rfl) kfX12_111 ds_49 rfl ?_
  refine J_icmp_ge (tgt := 86) (dk okX12_strongest 14 rfl) (by decide) (fun h1 => ?_) (fun h1 => ?_)
  · exact J_sub [0, 1, 2, 3] rfl (kx x1 x2 x3 (by unfold bd_X12_strongest_15; first | (simp only [if_pos h1]; done) | (simp only [if_pos h1]; rfl) | rfl))
  · have t := t h1
    refine J_aload_n (dk okX12_strongest 15 rfl) 0 rfl rfl ?_
    refine J_getR (dk okX12_strongest 16 rfl) kfX12_32 ds_49 rfl ?_
    refine J_bipush (v := 21) (dk okX12_strongest 17 rfl) (by decide) ?_
    refine J_iald (dk okX12_strongest 18 rfl) ds_52 (by unfold vp_in; decide) ?_
    refine J_iload (dk okX12_strongest 19 rfl) 4 rfl ?_
    refine J_callSi (As := [.int (μ.1 52 (Int32.toNatClampNeg 21)), .int x4]) (dk okX12_strongest 20 rfl) skX12_has lkX12_126 rfl rfl (Nat.le_of_ble_eq_true rfl) (by decide) (con_X12_has  ⟨_, rfl, ?_⟩)
    have K4 : J E G 4 mX12_strongest Q 49 [(0, rf E 49), (1, .int x1), (2, .int x2), (3, .int x3), (4, .int x4)] [.int (if (v_X12_has (μ.1 52 (Int32.toNatClampNeg 21)) x4) = 0 then (v_X12_decidedBy x4 μ) else (-1) : Int32)] μ := by
      refine J_istore (ls' := [(5, _), (0, _), (1, _), (2, _), (3, _), (4, _)]) (dk okX12_strongest 27 rfl) (by decide) rfl ?_
      refine J_iload (dk okX12_strongest 28 rfl) 0 rfl ?_
      refine J_iload_n (dk okX12_strongest 29 rfl) 3 rfl rfl ?_
      have K6 : J E G 4 mX12_strongest Q 63 [(0, rf E 49), (2, .int x2), (3, .int x3), (4, .int x4), (5, .int (if (v_X12_has (μ.1 52 (Int32.toNatClampNeg 21)) x4) = 0 then (v_X12_decidedBy x4 μ) else (-1) : Int32))] [.int (if (if (v_X12_has (μ.1 52 (Int32.toNatClampNeg 21)) x4) = 0 then (v_X12_decidedBy x4 μ) else (-1) : Int32) ≤ x2 then x1 else x4 : Int32)] μ := by
        refine J_istore_n (ls' := [(1, _), (0, _), (2, _), (3, _), (4, _), (5, _)]) (dk okX12_strongest 34 rfl) rfl (by decide) rfl ?_
        refine J_iload_n (dk okX12_strongest 35 rfl) 2 rfl rfl ?_
        refine J_iload (dk okX12_strongest 36 rfl) 5 rfl ?_
        refine J_mmax (dk okX12_strongest 37 rfl) lkX12_284 mk_max_s mk_Math mk_max_c (by decide) (Nat.le_of_ble_eq_true rfl) ?_
        refine J_istore_n (ls' := [(2, _), (1, _), (0, _), (3, _), (4, _), (5, _)]) (dk okX12_strongest 38 rfl) rfl (by decide) rfl ?_
        refine J_iload_n (dk okX12_strongest 39 rfl) 3 rfl rfl ?_
        refine J_iconst (v := 0) (dk okX12_strongest 40 rfl) (by decide) ?_
        refine J_iload (dk okX12_strongest 41 rfl) 5 rfl ?_
        refine J_mmax (dk okX12_strongest 42 rfl) lkX12_284 mk_max_s mk_Math mk_max_c (by decide) (Nat.le_of_ble_eq_true rfl) ?_
        refine J_iadd (dk okX12_strongest 43 rfl) ?_
        refine J_istore_n (ls' := [(3, _), (2, _), (1, _), (0, _), (4, _), (5, _)]) (dk okX12_strongest 44 rfl) rfl (by decide) rfl ?_
        refine J_iinc (v := (x4 + 1)) (ls' := [(4, _), (3, _), (2, _), (1, _), (0, _), (5, _)]) (dk okX12_strongest 45 rfl) 4 rfl rfl (by decide) rfl ?_
        refine J_goto (tgt := 15) (dk okX12_strongest 46 rfl) (by decide) ?_
        exact J_sub [4, 3, 2, 1, 0] rfl (kb (if (if (v_X12_has (μ.1 52 (Int32.toNatClampNeg 21)) x4) = 0 then (v_X12_decidedBy x4 μ) else (-1) : Int32) ≤ x2 then x1 else x4 : Int32) (if x2 < (if (v_X12_has (μ.1 52 (Int32.toNatClampNeg 21)) x4) = 0 then (v_X12_decidedBy x4 μ) else (-1) : Int32) then (if (v_X12_has (μ.1 52 (Int32.toNatClampNeg 21)) x4) = 0 then (v_X12_decidedBy x4 μ) else (-1) : Int32) else x2) (x3 + (if 0 < (if (v_X12_has (μ.1 52 (Int32.toNatClampNeg 21)) x4) = 0 then (v_X12_decidedBy x4 μ) else (-1) : Int32) then (if (v_X12_has (μ.1 52 (Int32.toNatClampNeg 21)) x4) = 0 then (v_X12_decidedBy x4 μ) else (-1) : Int32) else 0)) (x4 + 1) (by unfold bd_X12_strongest_15; first | (simp only [if_neg h1]; done) | (simp only [if_neg h1]; rfl) | rfl))
      refine J_icmp_le (tgt := 62) (dk okX12_strongest 30 rfl) (by decide) (fun h5 => ?_) (fun h5 => ?_)
      · refine J_iload_n (dk okX12_strongest 33 rfl) 2 rfl rfl ?_
        refine J_sub (ls' := [(0, _), (2, _), (3, _), (4, _), (5, _)]) [1, 3, 4, 5, 0] rfl ?_
        (try simp only [if_pos h5] at K6 ⊢); exact K6
      · refine J_iload (dk okX12_strongest 31 rfl) 5 rfl ?_
        refine J_goto (tgt := 63) (dk okX12_strongest 32 rfl) (by decide) ?_
        refine J_sub (ls' := [(0, _), (2, _), (3, _), (4, _), (5, _)]) [1, 3, 4, 5, 0] rfl ?_
        (try simp only [if_neg h5] at K6 ⊢); exact K6
    refine J_if_eq (tgt := 43) (dk okX12_strongest 21 rfl) (by decide) (fun h2 => ?_) (fun h2 => ?_)
    · have t := t h2
      refine J_aload_n (dk okX12_strongest 24 rfl) 0 rfl rfl ?_
      refine J_iload (dk okX12_strongest 25 rfl) 4 rfl ?_
      have s3 := t
      refine J_callVi (As := [.int x4]) (dk okX12_strongest 26 rfl) ds_49 rfl vkX12_decidedBy lkX12_377 rfl rfl (Nat.le_of_ble_eq_true rfl) (by decide) (con_X12_decidedBy s3 ⟨_, rfl, ?_⟩)
      refine J_sub (ls' := [(0, _), (1, _), (2, _), (3, _), (4, _)]) [0, 1, 2, 3, 4] rfl ?_
      (try simp only [if_pos h2] at K4 ⊢); exact K4
    · refine J_iconst (v := (-1)) (dk okX12_strongest 22 rfl) (by decide) ?_
      refine J_goto (tgt := 49) (dk okX12_strongest 23 rfl) (by decide) ?_
      refine J_sub (ls' := [(0, _), (1, _), (2, _), (3, _), (4, _)]) [0, 1, 2, 3, 4] rfl ?_
      (try simp only [if_neg h2] at K4 ⊢); exact K4
/-- VotingFloorModel.strongest()I -/
noncomputable def v_X12_strongest  (μ : Mm) : Int32 := (let μ1 : Mm := (upI μ 49 0 0); (let r3 : Int32 × Int32 × Int32 := whl (fun s : Int32 × Int32 × Int32 × Int32 => bd_X12_strongest_15  μ1 s.1 s.2.1 s.2.2.1 s.2.2.2) (fun _ : Int32 × Int32 × Int32 × Int32 => (0, 0, 0)) FU ((-2), (-1), 0, 0); (r3.1)))
noncomputable def e_X12_strongest  (μ : Mm) : Mm := (let μ1 : Mm := (upI μ 49 0 0); (let r3 : Int32 × Int32 × Int32 := whl (fun s : Int32 × Int32 × Int32 × Int32 => bd_X12_strongest_15  μ1 s.1 s.2.1 s.2.2.1 s.2.2.2) (fun _ : Int32 × Int32 × Int32 × Int32 => (0, 0, 0)) FU ((-2), (-1), 0, 0); (let μ10 : Mm := (if (r3.1) < 0 then μ1 else ((e_X12_enters (Int32.toInt64 (r3.2.2)) ((e_X12_enters (Int32.toInt64 (r3.2.1)) ((upI μ1 49 1 0)))))) : Mm); μ10)))
def p_X12_strongest   (μ : Mm) : Prop := (∀ μ1 : Mm, μ1 = (upI μ 49 0 0) → (whP (fun s : Int32 × Int32 × Int32 × Int32 => bd_X12_strongest_15  μ1 s.1 s.2.1 s.2.2.1 s.2.2.2) (fun s : Int32 × Int32 × Int32 × Int32 => sd_X12_strongest_15   μ1 s.1 s.2.1 s.2.2.1 s.2.2.2) FU ((-2), (-1), 0, 0)) ∧ (∀ r3 : Int32 × Int32 × Int32, r3 = whl (fun s : Int32 × Int32 × Int32 × Int32 => bd_X12_strongest_15  μ1 s.1 s.2.1 s.2.2.1 s.2.2.2) (fun _ : Int32 × Int32 × Int32 × Int32 => (0, 0, 0)) FU ((-2), (-1), 0, 0) → (¬ ((r3.1) < 0) → (∀ μ5 : Mm, μ5 = (upI μ1 49 1 0) → (p_X12_enters (Int32.toInt64 (r3.2.1)) μ5) ∧ (∀ μ7 : Mm, μ7 = (e_X12_enters (Int32.toInt64 (r3.2.1)) μ5) → p_X12_enters (Int32.toInt64 (r3.2.2)) μ7)))))
set_option maxRecDepth 20000 in
set_option maxHeartbeats 4000000 in
theorem con_X12_strongest {E : Ex} {Q : Option Value → Mm → Prop} {μ : Mm} (t : p_X12_strongest   μ) (k : Q (some (.int (v_X12_strongest  μ))) (e_X12_strongest  μ)) : Con E 4 mX12_strongest [rf E 49] μ Q := by
  refine Con_J (by decide +kernel) (Nat.le_of_ble_eq_true rfl) (fun G => ?_)
  unfold v_X12_strongest e_X12_strongest at k
  unfold p_X12_strongest at t
  refine J_sub (ls' := [(0, rf E 49)]) [0] rfl ?_
  refine J_aload_n (dk okX12_strongest 0 rfl) 0 rfl rfl ?_
  refine J_iconst (v := 0) (dk okX12_strongest 1 rfl) (by decide) ?_
  refine J_put (dk okX12_strongest 2 rfl) kpX12_3 ds_49 rfl rfl rfl ?_
  refine J_nm (fun μ1 eμ1 => ?_)
  have t := t μ1 eμ1
  refine J_bipush (v := (-2)) (dk okX12_strongest 3 rfl) (by decide) ?_
  refine J_istore_n (ls' := [(1, _), (0, _)]) (dk okX12_strongest 4 rfl) rfl (by decide) rfl ?_
  refine J_iconst (v := (-1)) (dk okX12_strongest 5 rfl) (by decide) ?_
  refine J_istore_n (ls' := [(2, _), (1, _), (0, _)]) (dk okX12_strongest 6 rfl) rfl (by decide) rfl ?_
  refine J_iconst (v := 0) (dk okX12_strongest 7 rfl) (by decide) ?_
  refine J_istore_n (ls' := [(3, _), (2, _), (1, _), (0, _)]) (dk okX12_strongest 8 rfl) rfl (by decide) rfl ?_
  refine J_iconst (v := 0) (dk okX12_strongest 9 rfl) (by decide) ?_
  refine J_istore (ls' := [(4, _), (3, _), (2, _), (1, _), (0, _)]) (dk okX12_strongest 10 rfl) (by decide) rfl ?_
  obtain ⟨s2, t⟩ := t
  refine J_sub (ls' := [(0, _), (1, _), (2, _), (3, _), (4, _)]) [4, 3, 2, 1, 0] rfl ?_
  refine lw_X12_strongest_15  s2 (fun r3 er3 => ?_)
  have t := t r3 er3
  refine J_iload_n (dk okX12_strongest 47 rfl) 1 rfl rfl ?_
  have K11 : J E G 4 mX12_strongest Q 107 [(1, .int (r3.1))] [] (if (r3.1) < 0 then μ1 else ((e_X12_enters (Int32.toInt64 (r3.2.2)) ((e_X12_enters (Int32.toInt64 (r3.2.1)) ((upI μ1 49 1 0)))))) : Mm) := by
    refine J_nm (fun μ10 eμ10 => ?_)
    refine J_iload_n (dk okX12_strongest 60 rfl) 0 rfl rfl ?_
    subst eμ10 er3 eμ1
    exact J_iret (dk okX12_strongest 61 rfl) rfl k
  refine J_if_lt (tgt := 107) (dk okX12_strongest 48 rfl) (by decide) (fun h4 => ?_) (fun h4 => ?_)
  · refine J_sub (ls' := [(1, _)]) [1] rfl ?_
    (try simp only [if_pos h4] at K11 ⊢); exact K11
  · have t := t h4
    refine J_aload_n (dk okX12_strongest 49 rfl) 0 rfl rfl ?_
    refine J_iconst (v := 0) (dk okX12_strongest 50 rfl) (by decide) ?_
    refine J_put (dk okX12_strongest 51 rfl) kpX12_15 ds_49 rfl rfl rfl ?_
    refine J_nm (fun μ5 eμ5 => ?_)
    have t := t μ5 eμ5
    refine J_aload_n (dk okX12_strongest 52 rfl) 0 rfl rfl ?_
    refine J_iload_n (dk okX12_strongest 53 rfl) 2 rfl rfl ?_
    refine J_i2l (dk okX12_strongest 54 rfl) ?_
    obtain ⟨s6, t⟩ := t
    refine J_callVv (As := [.long (Int32.toInt64 (r3.2.1))]) (dk okX12_strongest 55 rfl) ds_49 rfl vkX12_enters lkX12_18 rfl rfl (Nat.le_of_ble_eq_true rfl) (by decide) (con_X12_enters s6 ⟨rfl, ?_⟩)
    refine J_nm (fun μ7 eμ7 => ?_)
    have t := t μ7 eμ7
    refine J_aload_n (dk okX12_strongest 56 rfl) 0 rfl rfl ?_
    refine J_iload_n (dk okX12_strongest 57 rfl) 3 rfl rfl ?_
    refine J_i2l (dk okX12_strongest 58 rfl) ?_
    have s8 := t
    refine J_callVv (As := [.long (Int32.toInt64 (r3.2.2))]) (dk okX12_strongest 59 rfl) ds_49 rfl vkX12_enters lkX12_18 rfl rfl (Nat.le_of_ble_eq_true rfl) (by decide) (con_X12_enters s8 ⟨rfl, ?_⟩)
    refine J_nm (fun μ9 eμ9 => ?_)
    subst eμ9 eμ7 eμ5
    refine J_sub (ls' := [(1, _)]) [1] rfl ?_
    (try simp only [if_neg h4] at K11 ⊢); exact K11
/-- VotingFloorModel.turnsTo(II)I -/
noncomputable def v_X12_turnsTo (p0 : Int32) (p1 : Int32) (μ : Mm) : Int32 := (let μ1 : Mm := (upI μ 49 0 0); (let μ3 : Mm := (e_X12_putsBy  μ1); (let μ5 : Mm := (e_X12_wishesTo p0 p1 μ3); (v_X12_counted (v_X12_wishesTo p0 p1 μ3) μ5))))
noncomputable def e_X12_turnsTo (p0 : Int32) (p1 : Int32) (μ : Mm) : Mm := (let μ1 : Mm := (upI μ 49 0 0); (let μ3 : Mm := (e_X12_putsBy  μ1); (let μ5 : Mm := (e_X12_wishesTo p0 p1 μ3); (let μ7 : Mm := (e_X12_counted (v_X12_wishesTo p0 p1 μ3) μ5); μ7))))
def p_X12_turnsTo (p0 : Int32) (p1 : Int32)  (μ : Mm) : Prop := (∀ μ1 : Mm, μ1 = (upI μ 49 0 0) → (p_X12_putsBy μ1) ∧ (∀ μ3 : Mm, μ3 = (e_X12_putsBy  μ1) → (p_X12_wishesTo p0 p1 μ3) ∧ (∀ μ5 : Mm, μ5 = (e_X12_wishesTo p0 p1 μ3) → p_X12_counted (v_X12_wishesTo p0 p1 μ3) μ5)))
set_option maxRecDepth 20000 in
set_option maxHeartbeats 4000000 in
theorem con_X12_turnsTo {E : Ex} {Q : Option Value → Mm → Prop} {p0 : Int32} {p1 : Int32} {μ : Mm} (t : p_X12_turnsTo p0 p1  μ) (k : Q (some (.int (v_X12_turnsTo p0 p1 μ))) (e_X12_turnsTo p0 p1 μ)) : Con E 4 mX12_turnsTo [rf E 49, .int p0, .int p1] μ Q := by
  refine Con_J (by decide +kernel) (Nat.le_of_ble_eq_true rfl) (fun G => ?_)
  unfold v_X12_turnsTo e_X12_turnsTo at k
  unfold p_X12_turnsTo at t
  refine J_sub (ls' := [(0, rf E 49), (1, .int p0), (2, .int p1)]) [0, 1, 2] rfl ?_
  refine J_aload_n (dk okX12_turnsTo 0 rfl) 0 rfl rfl ?_
  refine J_iconst (v := 0) (dk okX12_turnsTo 1 rfl) (by decide) ?_
  refine J_put (dk okX12_turnsTo 2 rfl) kpX12_3 ds_49 rfl rfl rfl ?_
  refine J_nm (fun μ1 eμ1 => ?_)
  have t := t μ1 eμ1
  refine J_aload_n (dk okX12_turnsTo 3 rfl) 0 rfl rfl ?_
  obtain ⟨s2, t⟩ := t
  refine J_callVv (As := []) (dk okX12_turnsTo 4 rfl) ds_49 rfl vkX12_putsBy lkX12_306 rfl rfl (Nat.le_of_ble_eq_true rfl) (by decide) (con_X12_putsBy s2 ⟨rfl, ?_⟩)
  refine J_nm (fun μ3 eμ3 => ?_)
  have t := t μ3 eμ3
  refine J_aload_n (dk okX12_turnsTo 5 rfl) 0 rfl rfl ?_
  refine J_aload_n (dk okX12_turnsTo 6 rfl) 0 rfl rfl ?_
  refine J_iload_n (dk okX12_turnsTo 7 rfl) 1 rfl rfl ?_
  refine J_iload_n (dk okX12_turnsTo 8 rfl) 2 rfl rfl ?_
  obtain ⟨s4, t⟩ := t
  refine J_callVi (As := [.int p0, .int p1]) (dk okX12_turnsTo 9 rfl) ds_49 rfl vkX12_wishesTo lkX12_327 rfl rfl (Nat.le_of_ble_eq_true rfl) (by decide) (con_X12_wishesTo s4 ⟨_, rfl, ?_⟩)
  refine J_nm (fun μ5 eμ5 => ?_)
  have t := t μ5 eμ5
  have s6 := t
  refine J_callVi (As := [.int (v_X12_wishesTo p0 p1 μ3)]) (dk okX12_turnsTo 10 rfl) ds_49 rfl vkX12_counted lkX12_318 rfl rfl (Nat.le_of_ble_eq_true rfl) (by decide) (con_X12_counted s6 ⟨_, rfl, ?_⟩)
  refine J_nm (fun μ7 eμ7 => ?_)
  subst eμ7 eμ5 eμ3 eμ1
  exact J_iret (dk okX12_turnsTo 11 rfl) rfl k
/-- VotingFloorModel.walksTo([III)I -/
noncomputable def v_X12_walksTo (p0 : Nat) (p1 : Int32) (p2 : Int32) (μ : Mm) : Int32 := (if (v_X12_has (μ.1 p0 (Int32.toNatClampNeg 21)) p1) = 0 then (let μ3 : Mm := (upI μ 60 (Int32.toNatClampNeg 0) (μ.1 p0 (Int32.toNatClampNeg p1))); (let μ5 : Mm := (upI μ3 60 (Int32.toNatClampNeg 1) (μ3.1 p0 (Int32.toNatClampNeg (7 + p1)))); (let μ7 : Mm := (upI μ5 60 (Int32.toNatClampNeg 2) (v_X12_load p0 p1 μ5)); (let μ8 : Mm := (upI μ7 60 (Int32.toNatClampNeg 3) p2); (let μ10 : Mm := (upI μ8 60 (Int32.toNatClampNeg 4) (v_X12_othersOn p0 p1 μ8)); (let μ11 : Mm := (upI μ10 60 (Int32.toNatClampNeg 5) p1); (let μ12 : Mm := (upI μ11 60 (Int32.toNatClampNeg 6) ((μ11.1 p0 (Int32.toNatClampNeg 22)) - (μ11.1 p0 (Int32.toNatClampNeg 22)) / 7 * 7)); (let μ14 : Mm := (e_X12_ruled  μ12); (if (v_X12_in (Int32.toInt64 ((μ14.1 p0 (Int32.toNatClampNeg (7 + p1))) + (v_X12_side (v_X12_ruled  μ12)))) (-9) 9) = 0 then 0 else (v_X12_side (v_X12_ruled  μ12)) : Int32))))))))) else 0)
noncomputable def e_X12_walksTo (p0 : Nat) (p1 : Int32) (p2 : Int32) (μ : Mm) : Mm := (if (v_X12_has (μ.1 p0 (Int32.toNatClampNeg 21)) p1) = 0 then (let μ3 : Mm := (upI μ 60 (Int32.toNatClampNeg 0) (μ.1 p0 (Int32.toNatClampNeg p1))); (let μ5 : Mm := (upI μ3 60 (Int32.toNatClampNeg 1) (μ3.1 p0 (Int32.toNatClampNeg (7 + p1)))); (let μ7 : Mm := (upI μ5 60 (Int32.toNatClampNeg 2) (v_X12_load p0 p1 μ5)); (let μ8 : Mm := (upI μ7 60 (Int32.toNatClampNeg 3) p2); (let μ10 : Mm := (upI μ8 60 (Int32.toNatClampNeg 4) (v_X12_othersOn p0 p1 μ8)); (let μ11 : Mm := (upI μ10 60 (Int32.toNatClampNeg 5) p1); (let μ12 : Mm := (upI μ11 60 (Int32.toNatClampNeg 6) ((μ11.1 p0 (Int32.toNatClampNeg 22)) - (μ11.1 p0 (Int32.toNatClampNeg 22)) / 7 * 7)); (let μ14 : Mm := (e_X12_ruled  μ12); μ14)))))))) else μ)
def p_X12_walksTo (p0 : Nat) (p1 : Int32) (p2 : Int32)  (μ : Mm) : Prop := ((v_X12_has (μ.1 p0 (Int32.toNatClampNeg 21)) p1) = 0 → (vp_in p1 24) ∧ (∀ μ3 : Mm, μ3 = (upI μ 60 (Int32.toNatClampNeg 0) (μ.1 p0 (Int32.toNatClampNeg p1))) → (vp_in (7 + p1) 24) ∧ (∀ μ5 : Mm, μ5 = (upI μ3 60 (Int32.toNatClampNeg 1) (μ3.1 p0 (Int32.toNatClampNeg (7 + p1)))) → (p_X12_load p0 p1) ∧ (∀ μ7 : Mm, μ7 = (upI μ5 60 (Int32.toNatClampNeg 2) (v_X12_load p0 p1 μ5)) → (∀ μ8 : Mm, μ8 = (upI μ7 60 (Int32.toNatClampNeg 3) p2) → (p_X12_othersOn p0 p1 μ8) ∧ (∀ μ10 : Mm, μ10 = (upI μ8 60 (Int32.toNatClampNeg 4) (v_X12_othersOn p0 p1 μ8)) → (∀ μ11 : Mm, μ11 = (upI μ10 60 (Int32.toNatClampNeg 5) p1) → (∀ μ12 : Mm, μ12 = (upI μ11 60 (Int32.toNatClampNeg 6) ((μ11.1 p0 (Int32.toNatClampNeg 22)) - (μ11.1 p0 (Int32.toNatClampNeg 22)) / 7 * 7)) → (p_X12_ruled μ12) ∧ (∀ μ14 : Mm, μ14 = (e_X12_ruled  μ12) → vp_in (7 + p1) 24)))))))))
set_option maxRecDepth 20000 in
set_option maxHeartbeats 4000000 in
theorem con_X12_walksTo {E : Ex} {Q : Option Value → Mm → Prop} {p0 : Nat} {p1 : Int32} {p2 : Int32} {μ : Mm} (hp0 : dscL[p0]? = some (.inr (.inl (1, 24)))) (t : p_X12_walksTo p0 p1 p2  μ) (k : Q (some (.int (v_X12_walksTo p0 p1 p2 μ))) (e_X12_walksTo p0 p1 p2 μ)) : Con E 4 mX12_walksTo [rf E 49, rf E p0, .int p1, .int p2] μ Q := by
  refine Con_J (by decide +kernel) (Nat.le_of_ble_eq_true rfl) (fun G => ?_)
  unfold v_X12_walksTo e_X12_walksTo at k
  unfold p_X12_walksTo at t
  refine J_sub (ls' := [(0, rf E 49), (1, rf E p0), (2, .int p1), (3, .int p2)]) [0, 1, 2, 3] rfl ?_
  refine J_aload_n (dk okX12_walksTo 0 rfl) 1 rfl rfl ?_
  refine J_bipush (v := 21) (dk okX12_walksTo 1 rfl) (by decide) ?_
  refine J_iald (dk okX12_walksTo 2 rfl) hp0 (by unfold vp_in; decide) ?_
  refine J_iload_n (dk okX12_walksTo 3 rfl) 2 rfl rfl ?_
  refine J_callSi (As := [.int (μ.1 p0 (Int32.toNatClampNeg 21)), .int p1]) (dk okX12_walksTo 4 rfl) skX12_has lkX12_126 rfl rfl (Nat.le_of_ble_eq_true rfl) (by decide) (con_X12_has  ⟨_, rfl, ?_⟩)
  refine J_if_eq (tgt := 13) (dk okX12_walksTo 5 rfl) (by decide) (fun h1 => ?_) (fun h1 => ?_)
  · have t := t h1
    refine J_aload_n (dk okX12_walksTo 8 rfl) 0 rfl rfl ?_
    refine J_getR (dk okX12_walksTo 9 rfl) kfX12_56 ds_49 rfl ?_
    refine J_iconst (v := 0) (dk okX12_walksTo 10 rfl) (by decide) ?_
    refine J_aload_n (dk okX12_walksTo 11 rfl) 1 rfl rfl ?_
    refine J_iload_n (dk okX12_walksTo 12 rfl) 2 rfl rfl ?_
    obtain ⟨s2, t⟩ := t
    refine J_iald (dk okX12_walksTo 13 rfl) hp0 s2 ?_
    refine J_iast (dk okX12_walksTo 14 rfl) ds_60 (by unfold vp_in; decide) ?_
    refine J_nm (fun μ3 eμ3 => ?_)
    have t := t μ3 eμ3
    refine J_aload_n (dk okX12_walksTo 15 rfl) 0 rfl rfl ?_
    refine J_getR (dk okX12_walksTo 16 rfl) kfX12_56 ds_49 rfl ?_
    refine J_iconst (v := 1) (dk okX12_walksTo 17 rfl) (by decide) ?_
    refine J_aload_n (dk okX12_walksTo 18 rfl) 1 rfl rfl ?_
    refine J_bipush (v := 7) (dk okX12_walksTo 19 rfl) (by decide) ?_
    refine J_iload_n (dk okX12_walksTo 20 rfl) 2 rfl rfl ?_
    refine J_iadd (dk okX12_walksTo 21 rfl) ?_
    obtain ⟨s4, t⟩ := t
    refine J_iald (dk okX12_walksTo 22 rfl) hp0 s4 ?_
    refine J_iast (dk okX12_walksTo 23 rfl) ds_60 (by unfold vp_in; decide) ?_
    refine J_nm (fun μ5 eμ5 => ?_)
    have t := t μ5 eμ5
    refine J_aload_n (dk okX12_walksTo 24 rfl) 0 rfl rfl ?_
    refine J_getR (dk okX12_walksTo 25 rfl) kfX12_56 ds_49 rfl ?_
    refine J_iconst (v := 2) (dk okX12_walksTo 26 rfl) (by decide) ?_
    refine J_aload_n (dk okX12_walksTo 27 rfl) 0 rfl rfl ?_
    refine J_aload_n (dk okX12_walksTo 28 rfl) 1 rfl rfl ?_
    refine J_iload_n (dk okX12_walksTo 29 rfl) 2 rfl rfl ?_
    obtain ⟨s6, t⟩ := t
    refine J_callVi (As := [rf E p0, .int p1]) (dk okX12_walksTo 30 rfl) ds_49 rfl vkX12_load lkX12_130 rfl rfl (Nat.le_of_ble_eq_true rfl) (by decide) (con_X12_load hp0 s6 ⟨_, rfl, ?_⟩)
    refine J_iast (dk okX12_walksTo 31 rfl) ds_60 (by unfold vp_in; decide) ?_
    refine J_nm (fun μ7 eμ7 => ?_)
    have t := t μ7 eμ7
    refine J_aload_n (dk okX12_walksTo 32 rfl) 0 rfl rfl ?_
    refine J_getR (dk okX12_walksTo 33 rfl) kfX12_56 ds_49 rfl ?_
    refine J_iconst (v := 3) (dk okX12_walksTo 34 rfl) (by decide) ?_
    refine J_iload_n (dk okX12_walksTo 35 rfl) 3 rfl rfl ?_
    refine J_iast (dk okX12_walksTo 36 rfl) ds_60 (by unfold vp_in; decide) ?_
    refine J_nm (fun μ8 eμ8 => ?_)
    have t := t μ8 eμ8
    refine J_aload_n (dk okX12_walksTo 37 rfl) 0 rfl rfl ?_
    refine J_getR (dk okX12_walksTo 38 rfl) kfX12_56 ds_49 rfl ?_
    refine J_iconst (v := 4) (dk okX12_walksTo 39 rfl) (by decide) ?_
    refine J_aload_n (dk okX12_walksTo 40 rfl) 0 rfl rfl ?_
    refine J_aload_n (dk okX12_walksTo 41 rfl) 1 rfl rfl ?_
    refine J_iload_n (dk okX12_walksTo 42 rfl) 2 rfl rfl ?_
    obtain ⟨s9, t⟩ := t
    refine J_callVi (As := [rf E p0, .int p1]) (dk okX12_walksTo 43 rfl) ds_49 rfl vkX12_othersOn lkX12_254 rfl rfl (Nat.le_of_ble_eq_true rfl) (by decide) (con_X12_othersOn hp0 s9 ⟨_, rfl, ?_⟩)
    refine J_iast (dk okX12_walksTo 44 rfl) ds_60 (by unfold vp_in; decide) ?_
    refine J_nm (fun μ10 eμ10 => ?_)
    have t := t μ10 eμ10
    refine J_aload_n (dk okX12_walksTo 45 rfl) 0 rfl rfl ?_
    refine J_getR (dk okX12_walksTo 46 rfl) kfX12_56 ds_49 rfl ?_
    refine J_iconst (v := 5) (dk okX12_walksTo 47 rfl) (by decide) ?_
    refine J_iload_n (dk okX12_walksTo 48 rfl) 2 rfl rfl ?_
    refine J_iast (dk okX12_walksTo 49 rfl) ds_60 (by unfold vp_in; decide) ?_
    refine J_nm (fun μ11 eμ11 => ?_)
    have t := t μ11 eμ11
    refine J_aload_n (dk okX12_walksTo 50 rfl) 0 rfl rfl ?_
    refine J_getR (dk okX12_walksTo 51 rfl) kfX12_56 ds_49 rfl ?_
    refine J_bipush (v := 6) (dk okX12_walksTo 52 rfl) (by decide) ?_
    refine J_aload_n (dk okX12_walksTo 53 rfl) 1 rfl rfl ?_
    refine J_bipush (v := 22) (dk okX12_walksTo 54 rfl) (by decide) ?_
    refine J_iald (dk okX12_walksTo 55 rfl) hp0 (by unfold vp_in; decide) ?_
    refine J_bipush (v := 7) (dk okX12_walksTo 56 rfl) (by decide) ?_
    refine J_irem (dk okX12_walksTo 57 rfl) (by decide) ?_
    refine J_iast (dk okX12_walksTo 58 rfl) ds_60 (by unfold vp_in; decide) ?_
    refine J_nm (fun μ12 eμ12 => ?_)
    have t := t μ12 eμ12
    refine J_aload_n (dk okX12_walksTo 59 rfl) 0 rfl rfl ?_
    obtain ⟨s13, t⟩ := t
    refine J_callVi (As := []) (dk okX12_walksTo 60 rfl) ds_49 rfl vkX12_ruled lkX12_257 rfl rfl (Nat.le_of_ble_eq_true rfl) (by decide) (con_X12_ruled s13 ⟨_, rfl, ?_⟩)
    refine J_nm (fun μ14 eμ14 => ?_)
    have t := t μ14 eμ14
    refine J_callSi (As := [.int (v_X12_ruled  μ12)]) (dk okX12_walksTo 61 rfl) skX12_side lkX12_260 rfl rfl (Nat.le_of_ble_eq_true rfl) (by decide) (con_X12_side  ⟨_, rfl, ?_⟩)
    refine J_istore (ls' := [(4, _), (0, _), (1, _), (2, _), (3, _)]) (dk okX12_walksTo 62 rfl) (by decide) rfl ?_
    refine J_aload_n (dk okX12_walksTo 63 rfl) 2 rfl rfl ?_
    refine J_bipush (v := 7) (dk okX12_walksTo 64 rfl) (by decide) ?_
    refine J_iload_n (dk okX12_walksTo 65 rfl) 3 rfl rfl ?_
    refine J_iadd (dk okX12_walksTo 66 rfl) ?_
    have s15 := t
    refine J_iald (dk okX12_walksTo 67 rfl) hp0 s15 ?_
    refine J_iload (dk okX12_walksTo 68 rfl) 0 rfl ?_
    refine J_iadd (dk okX12_walksTo 69 rfl) ?_
    refine J_i2l (dk okX12_walksTo 70 rfl) ?_
    refine J_ldc2 (v := (-9)) (dk okX12_walksTo 71 rfl) kcX12_263 ?_
    refine J_ldc2 (v := 9) (dk okX12_walksTo 72 rfl) kcX12_265 ?_
    refine J_callSi (As := [.long (Int32.toInt64 ((μ14.1 p0 (Int32.toNatClampNeg (7 + p1))) + (v_X12_side (v_X12_ruled  μ12)))), .long (-9), .long 9]) (dk okX12_walksTo 73 rfl) skX12_in lkX12_114 rfl rfl (Nat.le_of_ble_eq_true rfl) (by decide) (con_X12_in  ⟨_, rfl, ?_⟩)
    have K17 : J E G 4 mX12_walksTo Q 123 [] [.int (if (v_X12_in (Int32.toInt64 ((μ14.1 p0 (Int32.toNatClampNeg (7 + p1))) + (v_X12_side (v_X12_ruled  μ12)))) (-9) 9) = 0 then 0 else (v_X12_side (v_X12_ruled  μ12)) : Int32)] μ14 := by
      subst eμ14 eμ12 eμ11 eμ10 eμ8 eμ7 eμ5 eμ3
      (try simp only [if_pos h1] at k ⊢)
      exact J_iret (dk okX12_walksTo 78 rfl) rfl k
    refine J_if_eq (tgt := 122) (dk okX12_walksTo 74 rfl) (by decide) (fun h16 => ?_) (fun h16 => ?_)
    · refine J_iconst (v := 0) (dk okX12_walksTo 77 rfl) (by decide) ?_
      refine J_sub (ls' := []) [] rfl ?_
      (try simp only [if_pos h16] at K17 ⊢); exact K17
    · refine J_iload (dk okX12_walksTo 75 rfl) 0 rfl ?_
      refine J_goto (tgt := 123) (dk okX12_walksTo 76 rfl) (by decide) ?_
      refine J_sub (ls' := []) [] rfl ?_
      (try simp only [if_neg h16] at K17 ⊢); exact K17
  · refine J_iconst (v := 0) (dk okX12_walksTo 6 rfl) (by decide) ?_
    (try simp only [if_neg h1] at k ⊢)
    exact J_iret (dk okX12_walksTo 7 rfl) rfl k
noncomputable def bd_X1_pass_7 (b : Nat) (p0 : Nat) (x2 : Int32) (x3 : Int32) (μ : Mm) : (Int32 × Int32 × Mm) ⊕ (Mm) := (if (μ.1 b 0) ≤ x3 then .inr μ else (let μ3 : Mm := (e_X1_wayOf b x3 p0 x2 μ); (let μ5 : Mm := (upI μ3 (b + 5) (Int32.toNatClampNeg x3) (v_X1_wayOf b x3 p0 x2 μ)); .inl (x2, (x3 + 1), μ5))))
def sd_X1_pass_7 (b : Nat) (p0 : Nat)  (x2 : Int32) (x3 : Int32) (μ : Mm) : Prop := (¬ ((μ.1 b 0) ≤ x3) → (p_X1_wayOf b x3 p0 x2 μ) ∧ (∀ μ3 : Mm, μ3 = (e_X1_wayOf b x3 p0 x2 μ) → vp_in x3 7))
set_option maxRecDepth 20000 in
set_option maxHeartbeats 4000000 in
theorem lw_X1_pass_7 {E : Ex} {G : Gx} {Q : Option Value → Mm → Prop} {b : Nat} {p0 : Nat} {x2 : Int32} {x3 : Int32} {μ : Mm} (hb : FloorAt b) (hp0 : RuleAt p0) (p : whP (fun s : Int32 × Int32 × Mm => bd_X1_pass_7 b p0 s.1 s.2.1 s.2.2) (fun s : Int32 × Int32 × Mm => sd_X1_pass_7 b p0  s.1 s.2.1 s.2.2) FU (x2, x3, μ)) (k : ∀ r : Mm, r = whl (fun s : Int32 × Int32 × Mm => bd_X1_pass_7 b p0 s.1 s.2.1 s.2.2) (fun s : Int32 × Int32 × Mm => s.2.2) FU (x2, x3, μ) → J E G 4 mX1_pass Q 34 [(0, rf E b)] [] r) : J E G 4 mX1_pass Q 7 [(0, rf E b), (1, rf E p0), (2, .int x2), (3, .int x3)] [] μ := by
  refine J_whl (f := (fun s : Int32 × Int32 × Mm => bd_X1_pass_7 b p0 s.1 s.2.1 s.2.2)) (dd := (fun s : Int32 × Int32 × Mm => s.2.2)) (sd := (fun s : Int32 × Int32 × Mm => sd_X1_pass_7 b p0  s.1 s.2.1 s.2.2)) (P := fun s : Int32 × Int32 × Mm => J E G 4 mX1_pass Q 7 [(0, rf E b), (1, rf E p0), (2, .int (s.1)), (3, .int (s.2.1))] [] (s.2.2)) (R := fun r : Mm => J E G 4 mX1_pass Q 34 [(0, rf E b)] [] r) ?_ FU (x2, x3, μ) p (k _ rfl)
  clear p k
  rintro ⟨x2, x3, μ⟩ t k1 k2
  dsimp only [sd_X1_pass_7] at t
  have kb : ∀ (y2 : Int32) (y3 : Int32) (μ9 : Mm), bd_X1_pass_7 b p0 x2 x3 μ = .inl (y2, y3, μ9) → J E G 4 mX1_pass Q 7 [(0, rf E b), (1, rf E p0), (2, .int y2), (3, .int y3)] [] μ9 := fun y2 y3 μ9 h => k1 (y2, y3, μ9) h
  have kx : ∀  (μ9 : Mm), bd_X1_pass_7 b p0 x2 x3 μ = .inr μ9 → J E G 4 mX1_pass Q 34 [(0, rf E b)] [] μ9 := fun  μ9 h => k2 μ9 h
  clear k1 k2
  refine J_iload_n (dk okX1_pass 5 rfl) 3 rfl rfl ?_
  refine J_aload_n (dk okX1_pass 6 rfl) 0 rfl rfl ?_
  refine J_getI (dk okX1_pass 7 rfl) kfX1_9 hb.1 rfl ?_
  refine J_icmp_ge (tgt := 34) (dk okX1_pass 8 rfl) (by decide) (fun h1 => ?_) (fun h1 => ?_)
  · exact J_sub [0] rfl (kx μ (by unfold bd_X1_pass_7; first | (simp only [if_pos h1]; done) | (simp only [if_pos h1]; rfl) | rfl))
  · have t := t h1
    refine J_aload_n (dk okX1_pass 9 rfl) 0 rfl rfl ?_
    refine J_getR (dk okX1_pass 10 rfl) kfX1_37 hb.1 rfl ?_
    refine J_iload_n (dk okX1_pass 11 rfl) 3 rfl rfl ?_
    refine J_aload_n (dk okX1_pass 12 rfl) 0 rfl rfl ?_
    refine J_iload_n (dk okX1_pass 13 rfl) 3 rfl rfl ?_
    refine J_aload_n (dk okX1_pass 14 rfl) 1 rfl rfl ?_
    refine J_iload_n (dk okX1_pass 15 rfl) 2 rfl rfl ?_
    obtain ⟨s2, t⟩ := t
    refine J_callVi (As := [.int x3, rf E p0, .int x2]) (dk okX1_pass 16 rfl) hb.1 rfl vkX1_wayOf lkX1_84 rfl rfl (Nat.le_of_ble_eq_true rfl) (by decide) (con_X1_wayOf hb hp0 s2 ⟨_, rfl, ?_⟩)
    refine J_nm (fun μ3 eμ3 => ?_)
    have t := t μ3 eμ3
    have s4 := t
    refine J_iast (dk okX1_pass 17 rfl) hb.2.2.2.2.2.1 s4 ?_
    refine J_nm (fun μ5 eμ5 => ?_)
    refine J_iinc (v := (x3 + 1)) (ls' := [(3, _), (0, _), (1, _), (2, _)]) (dk okX1_pass 18 rfl) 3 rfl rfl (by decide) rfl ?_
    refine J_goto (tgt := 7) (dk okX1_pass 19 rfl) (by decide) ?_
    exact J_sub [1, 2, 3, 0] rfl (kb x2 (x3 + 1) μ5 (by subst eμ5 eμ3; unfold bd_X1_pass_7; first | (simp only [if_neg h1]; done) | (simp only [if_neg h1]; rfl) | rfl))
noncomputable def bd_X1_pass_39 (b : Nat) (p0 : Nat) (x3 : Int32) (x4 : Int32) (μ : Mm) : (Int32 × Int32 × Mm) ⊕ (Int32 × Mm) := (if (μ.1 b 0) ≤ x4 then .inr (x3, μ) else (let μ5 : Mm := (upI μ (b + 3) (Int32.toNatClampNeg x4) ((μ.1 (b + 3) (Int32.toNatClampNeg x4)) + (μ.1 (b + 5) (Int32.toNatClampNeg x4)))); .inl ((x3 + (if (μ5.1 (b + 5) (Int32.toNatClampNeg x4)) = 0 then 0 else 1 : Int32)), (x4 + 1), μ5)))
def sd_X1_pass_39 (b : Nat) (p0 : Nat)  (x3 : Int32) (x4 : Int32) (μ : Mm) : Prop := (¬ ((μ.1 b 0) ≤ x4) → (vp_in x4 7) ∧ (vp_in x4 7) ∧ (vp_in x4 7) ∧ (∀ μ5 : Mm, μ5 = (upI μ (b + 3) (Int32.toNatClampNeg x4) ((μ.1 (b + 3) (Int32.toNatClampNeg x4)) + (μ.1 (b + 5) (Int32.toNatClampNeg x4)))) → vp_in x4 7))
set_option maxRecDepth 20000 in
set_option maxHeartbeats 4000000 in
theorem lw_X1_pass_39 {E : Ex} {G : Gx} {Q : Option Value → Mm → Prop} {b : Nat} {p0 : Nat} {x3 : Int32} {x4 : Int32} {μ : Mm} (hb : FloorAt b) (hp0 : RuleAt p0) (p : whP (fun s : Int32 × Int32 × Mm => bd_X1_pass_39 b p0 s.1 s.2.1 s.2.2) (fun s : Int32 × Int32 × Mm => sd_X1_pass_39 b p0  s.1 s.2.1 s.2.2) FU (x3, x4, μ)) (k : ∀ r : Int32 × Mm, r = whl (fun s : Int32 × Int32 × Mm => bd_X1_pass_39 b p0 s.1 s.2.1 s.2.2) (fun s : Int32 × Int32 × Mm => (0, s.2.2)) FU (x3, x4, μ) → J E G 4 mX1_pass Q 89 [(0, rf E b), (3, .int (r.1))] [] (r.2)) : J E G 4 mX1_pass Q 39 [(0, rf E b), (3, .int x3), (4, .int x4)] [] μ := by
  refine J_whl (f := (fun s : Int32 × Int32 × Mm => bd_X1_pass_39 b p0 s.1 s.2.1 s.2.2)) (dd := (fun s : Int32 × Int32 × Mm => (0, s.2.2))) (sd := (fun s : Int32 × Int32 × Mm => sd_X1_pass_39 b p0  s.1 s.2.1 s.2.2)) (P := fun s : Int32 × Int32 × Mm => J E G 4 mX1_pass Q 39 [(0, rf E b), (3, .int (s.1)), (4, .int (s.2.1))] [] (s.2.2)) (R := fun r : Int32 × Mm => J E G 4 mX1_pass Q 89 [(0, rf E b), (3, .int (r.1))] [] (r.2)) ?_ FU (x3, x4, μ) p (k _ rfl)
  clear p k
  rintro ⟨x3, x4, μ⟩ t k1 k2
  dsimp only [sd_X1_pass_39] at t
  have kb : ∀ (y3 : Int32) (y4 : Int32) (μ9 : Mm), bd_X1_pass_39 b p0 x3 x4 μ = .inl (y3, y4, μ9) → J E G 4 mX1_pass Q 39 [(0, rf E b), (3, .int y3), (4, .int y4)] [] μ9 := fun y3 y4 μ9 h => k1 (y3, y4, μ9) h
  have kx : ∀ (y3 : Int32) (μ9 : Mm), bd_X1_pass_39 b p0 x3 x4 μ = .inr (y3, μ9) → J E G 4 mX1_pass Q 89 [(0, rf E b), (3, .int y3)] [] μ9 := fun y3 μ9 h => k2 (y3, μ9) h
  clear k1 k2
  refine J_iload (dk okX1_pass 24 rfl) 2 rfl ?_
  refine J_aload_n (dk okX1_pass 25 rfl) 0 rfl rfl ?_
  refine J_getI (dk okX1_pass 26 rfl) kfX1_9 hb.1 rfl ?_
  refine J_icmp_ge (tgt := 89) (dk okX1_pass 27 rfl) (by decide) (fun h1 => ?_) (fun h1 => ?_)
  · exact J_sub [0, 1] rfl (kx x3 μ (by unfold bd_X1_pass_39; first | (simp only [if_pos h1]; done) | (simp only [if_pos h1]; rfl) | rfl))
  · have t := t h1
    refine J_aload_n (dk okX1_pass 28 rfl) 0 rfl rfl ?_
    refine J_getR (dk okX1_pass 29 rfl) kfX1_22 hb.1 rfl ?_
    refine J_iload (dk okX1_pass 30 rfl) 2 rfl ?_
    refine J_dup2 (dk okX1_pass 31 rfl) rfl rfl ?_
    obtain ⟨s2, t⟩ := t
    refine J_iald (dk okX1_pass 32 rfl) hb.2.2.2.1 s2 ?_
    refine J_aload_n (dk okX1_pass 33 rfl) 0 rfl rfl ?_
    refine J_getR (dk okX1_pass 34 rfl) kfX1_37 hb.1 rfl ?_
    refine J_iload (dk okX1_pass 35 rfl) 2 rfl ?_
    obtain ⟨s3, t⟩ := t
    refine J_iald (dk okX1_pass 36 rfl) hb.2.2.2.2.2.1 s3 ?_
    refine J_iadd (dk okX1_pass 37 rfl) ?_
    obtain ⟨s4, t⟩ := t
    refine J_iast (dk okX1_pass 38 rfl) hb.2.2.2.1 s4 ?_
    refine J_nm (fun μ5 eμ5 => ?_)
    have t := t μ5 eμ5
    refine J_iload_n (dk okX1_pass 39 rfl) 1 rfl rfl ?_
    refine J_aload_n (dk okX1_pass 40 rfl) 0 rfl rfl ?_
    refine J_getR (dk okX1_pass 41 rfl) kfX1_37 hb.1 rfl ?_
    refine J_iload (dk okX1_pass 42 rfl) 2 rfl ?_
    have s6 := t
    refine J_iald (dk okX1_pass 43 rfl) hb.2.2.2.2.2.1 s6 ?_
    have K8 : J E G 4 mX1_pass Q 81 [(0, rf E b), (4, .int x4)] [.int (if (μ5.1 (b + 5) (Int32.toNatClampNeg x4)) = 0 then 0 else 1 : Int32), .int x3] μ5 := by
      refine J_iadd (dk okX1_pass 48 rfl) ?_
      refine J_istore_n (ls' := [(3, _), (0, _), (4, _)]) (dk okX1_pass 49 rfl) rfl (by decide) rfl ?_
      refine J_iinc (v := (x4 + 1)) (ls' := [(4, _), (3, _), (0, _)]) (dk okX1_pass 50 rfl) 2 rfl rfl (by decide) rfl ?_
      refine J_goto (tgt := 39) (dk okX1_pass 51 rfl) (by decide) ?_
      exact J_sub [2, 1, 0] rfl (kb (x3 + (if (μ5.1 (b + 5) (Int32.toNatClampNeg x4)) = 0 then 0 else 1 : Int32)) (x4 + 1) μ5 (by subst eμ5; unfold bd_X1_pass_39; first | (simp only [if_neg h1]; done) | (simp only [if_neg h1]; rfl) | rfl))
    refine J_if_ne (tgt := 80) (dk okX1_pass 44 rfl) (by decide) (fun h7 => ?_) (fun h7 => ?_)
    · refine J_iconst (v := 1) (dk okX1_pass 47 rfl) (by decide) ?_
      refine J_sub (ls' := [(0, _), (4, _)]) [0, 2] rfl ?_
      (try simp only [if_neg h7] at K8 ⊢); exact K8
    · refine J_iconst (v := 0) (dk okX1_pass 45 rfl) (by decide) ?_
      refine J_goto (tgt := 81) (dk okX1_pass 46 rfl) (by decide) ?_
      refine J_sub (ls' := [(0, _), (4, _)]) [0, 2] rfl ?_
      (try simp only [if_pos h7] at K8 ⊢); exact K8
/-- VotingFloor$Floor.pass(LVotingFloor$Rule;)I -/
noncomputable def v_X1_pass (b : Nat) (p0 : Nat) (μ : Mm) : Int32 := (let r3 : Mm := whl (fun s : Int32 × Int32 × Mm => bd_X1_pass_7 b p0 s.1 s.2.1 s.2.2) (fun s : Int32 × Int32 × Mm => s.2.2) FU ((v_X1_moment b μ), 0, μ); (let r5 : Int32 × Mm := whl (fun s : Int32 × Int32 × Mm => bd_X1_pass_39 b p0 s.1 s.2.1 s.2.2) (fun s : Int32 × Int32 × Mm => (0, s.2.2)) FU (0, 0, r3); (r5.1)))
noncomputable def e_X1_pass (b : Nat) (p0 : Nat) (μ : Mm) : Mm := (let r3 : Mm := whl (fun s : Int32 × Int32 × Mm => bd_X1_pass_7 b p0 s.1 s.2.1 s.2.2) (fun s : Int32 × Int32 × Mm => s.2.2) FU ((v_X1_moment b μ), 0, μ); (let r5 : Int32 × Mm := whl (fun s : Int32 × Int32 × Mm => bd_X1_pass_39 b p0 s.1 s.2.1 s.2.2) (fun s : Int32 × Int32 × Mm => (0, s.2.2)) FU (0, 0, r3); (let μ6 : Mm := (upI (r5.2) b 6 (((r5.2).1 b 6) + 1)); μ6)))
def p_X1_pass (b : Nat) (p0 : Nat)  (μ : Mm) : Prop := (p_X1_moment b μ) ∧ (whP (fun s : Int32 × Int32 × Mm => bd_X1_pass_7 b p0 s.1 s.2.1 s.2.2) (fun s : Int32 × Int32 × Mm => sd_X1_pass_7 b p0  s.1 s.2.1 s.2.2) FU ((v_X1_moment b μ), 0, μ)) ∧ (∀ r3 : Mm, r3 = whl (fun s : Int32 × Int32 × Mm => bd_X1_pass_7 b p0 s.1 s.2.1 s.2.2) (fun s : Int32 × Int32 × Mm => s.2.2) FU ((v_X1_moment b μ), 0, μ) → whP (fun s : Int32 × Int32 × Mm => bd_X1_pass_39 b p0 s.1 s.2.1 s.2.2) (fun s : Int32 × Int32 × Mm => sd_X1_pass_39 b p0  s.1 s.2.1 s.2.2) FU (0, 0, r3))
set_option maxRecDepth 20000 in
set_option maxHeartbeats 4000000 in
theorem con_X1_pass {E : Ex} {Q : Option Value → Mm → Prop} {b : Nat} {p0 : Nat} {μ : Mm} (hb : FloorAt b) (hp0 : RuleAt p0) (t : p_X1_pass b p0  μ) (k : Q (some (.int (v_X1_pass b p0 μ))) (e_X1_pass b p0 μ)) : Con E 4 mX1_pass [rf E b, rf E p0] μ Q := by
  refine Con_J (by decide +kernel) (Nat.le_of_ble_eq_true rfl) (fun G => ?_)
  unfold v_X1_pass e_X1_pass at k
  unfold p_X1_pass at t
  refine J_sub (ls' := [(0, rf E b), (1, rf E p0)]) [0, 1] rfl ?_
  refine J_aload_n (dk okX1_pass 0 rfl) 0 rfl rfl ?_
  obtain ⟨s1, t⟩ := t
  refine J_callVi (As := []) (dk okX1_pass 1 rfl) hb.1 rfl vkX1_moment lkX1_81 rfl rfl (Nat.le_of_ble_eq_true rfl) (by decide) (con_X1_moment hb s1 ⟨_, rfl, ?_⟩)
  refine J_istore_n (ls' := [(2, _), (0, _), (1, _)]) (dk okX1_pass 2 rfl) rfl (by decide) rfl ?_
  refine J_iconst (v := 0) (dk okX1_pass 3 rfl) (by decide) ?_
  refine J_istore_n (ls' := [(3, _), (2, _), (0, _), (1, _)]) (dk okX1_pass 4 rfl) rfl (by decide) rfl ?_
  obtain ⟨s2, t⟩ := t
  refine J_sub (ls' := [(0, _), (1, _), (2, _), (3, _)]) [2, 3, 1, 0] rfl ?_
  refine lw_X1_pass_7 hb hp0 s2 (fun r3 er3 => ?_)
  have t := t r3 er3
  refine J_iconst (v := 0) (dk okX1_pass 20 rfl) (by decide) ?_
  refine J_istore_n (ls' := [(3, _), (0, _)]) (dk okX1_pass 21 rfl) rfl (by decide) rfl ?_
  refine J_iconst (v := 0) (dk okX1_pass 22 rfl) (by decide) ?_
  refine J_istore (ls' := [(4, _), (3, _), (0, _)]) (dk okX1_pass 23 rfl) (by decide) rfl ?_
  have s4 := t
  refine J_sub (ls' := [(0, _), (3, _), (4, _)]) [2, 1, 0] rfl ?_
  refine lw_X1_pass_39 hb hp0 s4 (fun r5 er5 => ?_)
  refine J_aload_n (dk okX1_pass 52 rfl) 0 rfl rfl ?_
  refine J_dup (dk okX1_pass 53 rfl) rfl ?_
  refine J_getI (dk okX1_pass 54 rfl) kfX1_31 hb.1 rfl ?_
  refine J_iconst (v := 1) (dk okX1_pass 55 rfl) (by decide) ?_
  refine J_iadd (dk okX1_pass 56 rfl) ?_
  refine J_put (dk okX1_pass 57 rfl) kpX1_31 hb.1 rfl rfl rfl ?_
  refine J_nm (fun μ6 eμ6 => ?_)
  refine J_iload_n (dk okX1_pass 58 rfl) 1 rfl rfl ?_
  subst eμ6 er5 er3
  exact J_iret (dk okX1_pass 59 rfl) rfl k
noncomputable def bd_X2_fitting_18 (p0 : Nat) (μ : Mm) (x2 : Int32) (x3 : Int32) (x4 : Int32) (x5 : Int32) : (Int32 × Int32 × Int32 × Int32) ⊕ (Int32 × Int32 × Int32) := (if (μ.1 42 2) ≤ x5 then .inr (x2, x3, x4) else (if x4 = 0 then .inr (x2, x3, x4) else .inl (x2, x3, (v_X2_isSo p0 x3 (μ.1 43 (Int32.toNatClampNeg x5)) (μ.1 44 (Int32.toNatClampNeg x5)) μ), (x5 + 1))))
def sd_X2_fitting_18 (p0 : Nat)  (μ : Mm) (x2 : Int32) (x3 : Int32) (x4 : Int32) (x5 : Int32) : Prop := (¬ ((μ.1 42 2) ≤ x5) → (¬ (x4 = 0) → (vp_in x5 12) ∧ (vp_in x5 12) ∧ p_X2_isSo p0 x3 (μ.1 43 (Int32.toNatClampNeg x5)) (μ.1 44 (Int32.toNatClampNeg x5)) μ))
set_option maxRecDepth 20000 in
set_option maxHeartbeats 4000000 in
theorem lw_X2_fitting_18 {E : Ex} {G : Gx} {Q : Option Value → Mm → Prop} {p0 : Nat} {x2 : Int32} {x3 : Int32} {x4 : Int32} {x5 : Int32} {μ : Mm} (hp0 : FloorAt p0) (p : whP (fun s : Int32 × Int32 × Int32 × Int32 => bd_X2_fitting_18 p0 μ s.1 s.2.1 s.2.2.1 s.2.2.2) (fun s : Int32 × Int32 × Int32 × Int32 => sd_X2_fitting_18 p0  μ s.1 s.2.1 s.2.2.1 s.2.2.2) FU (x2, x3, x4, x5)) (k : ∀ r : Int32 × Int32 × Int32, r = whl (fun s : Int32 × Int32 × Int32 × Int32 => bd_X2_fitting_18 p0 μ s.1 s.2.1 s.2.2.1 s.2.2.2) (fun _ : Int32 × Int32 × Int32 × Int32 => (0, 0, 0)) FU (x2, x3, x4, x5) → J E G 4 mX2_fitting Q 59 [(0, rf E 42), (1, rf E p0), (2, .int (r.1)), (3, .int (r.2.1)), (4, .int (r.2.2))] [] μ) : J E G 4 mX2_fitting Q 18 [(0, rf E 42), (1, rf E p0), (2, .int x2), (3, .int x3), (4, .int x4), (5, .int x5)] [] μ := by
  refine J_whl (f := (fun s : Int32 × Int32 × Int32 × Int32 => bd_X2_fitting_18 p0 μ s.1 s.2.1 s.2.2.1 s.2.2.2)) (dd := (fun _ : Int32 × Int32 × Int32 × Int32 => (0, 0, 0))) (sd := (fun s : Int32 × Int32 × Int32 × Int32 => sd_X2_fitting_18 p0  μ s.1 s.2.1 s.2.2.1 s.2.2.2)) (P := fun s : Int32 × Int32 × Int32 × Int32 => J E G 4 mX2_fitting Q 18 [(0, rf E 42), (1, rf E p0), (2, .int (s.1)), (3, .int (s.2.1)), (4, .int (s.2.2.1)), (5, .int (s.2.2.2))] [] (μ)) (R := fun r : Int32 × Int32 × Int32 => J E G 4 mX2_fitting Q 59 [(0, rf E 42), (1, rf E p0), (2, .int (r.1)), (3, .int (r.2.1)), (4, .int (r.2.2))] [] μ) ?_ FU (x2, x3, x4, x5) p (k _ rfl)
  clear p k
  rintro ⟨x2, x3, x4, x5⟩ t k1 k2
  dsimp only [sd_X2_fitting_18] at t
  have kb : ∀ (y2 : Int32) (y3 : Int32) (y4 : Int32) (y5 : Int32) , bd_X2_fitting_18 p0 μ x2 x3 x4 x5 = .inl (y2, y3, y4, y5) → J E G 4 mX2_fitting Q 18 [(0, rf E 42), (1, rf E p0), (2, .int y2), (3, .int y3), (4, .int y4), (5, .int y5)] [] μ := fun y2 y3 y4 y5  h => k1 (y2, y3, y4, y5) h
  have kx : ∀ (y2 : Int32) (y3 : Int32) (y4 : Int32) , bd_X2_fitting_18 p0 μ x2 x3 x4 x5 = .inr (y2, y3, y4) → J E G 4 mX2_fitting Q 59 [(0, rf E 42), (1, rf E p0), (2, .int y2), (3, .int y3), (4, .int y4)] [] μ := fun y2 y3 y4  h => k2 (y2, y3, y4) h
  clear k1 k2
  refine J_iload (dk okX2_fitting 12 rfl) 5 rfl ?_
  refine J_aload_n (dk okX2_fitting 13 rfl) 0 rfl rfl ?_
  refine J_getI (dk okX2_fitting 14 rfl) kfX2_18 ds_42 rfl ?_
  refine J_icmp_ge (tgt := 59) (dk okX2_fitting 15 rfl) (by decide) (fun h1 => ?_) (fun h1 => ?_)
  · exact J_sub [0, 1, 2, 3, 4] rfl (kx x2 x3 x4 (by unfold bd_X2_fitting_18; first | (simp only [if_pos h1]; done) | (simp only [if_pos h1]; rfl) | rfl))
  · have t := t h1
    refine J_iload (dk okX2_fitting 16 rfl) 4 rfl ?_
    refine J_if_eq (tgt := 59) (dk okX2_fitting 17 rfl) (by decide) (fun h2 => ?_) (fun h2 => ?_)
    · exact J_sub [0, 1, 2, 3, 4] rfl (kx x2 x3 x4 (by unfold bd_X2_fitting_18; first | (simp only [if_neg h1, if_pos h2]; done) | (simp only [if_neg h1, if_pos h2]; rfl) | rfl))
    · have t := t h2
      refine J_aload_n (dk okX2_fitting 18 rfl) 1 rfl rfl ?_
      refine J_iload_n (dk okX2_fitting 19 rfl) 3 rfl rfl ?_
      refine J_aload_n (dk okX2_fitting 20 rfl) 0 rfl rfl ?_
      refine J_getR (dk okX2_fitting 21 rfl) kfX2_11 ds_42 rfl ?_
      refine J_iload (dk okX2_fitting 22 rfl) 5 rfl ?_
      obtain ⟨s3, t⟩ := t
      refine J_iald (dk okX2_fitting 23 rfl) ds_43 s3 ?_
      refine J_aload_n (dk okX2_fitting 24 rfl) 0 rfl rfl ?_
      refine J_getR (dk okX2_fitting 25 rfl) kfX2_15 ds_42 rfl ?_
      refine J_iload (dk okX2_fitting 26 rfl) 5 rfl ?_
      obtain ⟨s4, t⟩ := t
      refine J_iald (dk okX2_fitting 27 rfl) ds_44 s4 ?_
      have s5 := t
      refine J_callSi (As := [rf E p0, .int x3, .int (μ.1 43 (Int32.toNatClampNeg x5)), .int (μ.1 44 (Int32.toNatClampNeg x5))]) (dk okX2_fitting 28 rfl) skX2_isSo lkX2_49 rfl rfl (Nat.le_of_ble_eq_true rfl) (by decide) (con_X2_isSo hp0 s5 ⟨_, rfl, ?_⟩)
      refine J_istore (ls' := [(4, _), (0, _), (1, _), (2, _), (3, _), (5, _)]) (dk okX2_fitting 29 rfl) (by decide) rfl ?_
      refine J_iinc (v := (x5 + 1)) (ls' := [(5, _), (4, _), (0, _), (1, _), (2, _), (3, _)]) (dk okX2_fitting 30 rfl) 5 rfl rfl (by decide) rfl ?_
      refine J_goto (tgt := 18) (dk okX2_fitting 31 rfl) (by decide) ?_
      exact J_sub [2, 3, 4, 5, 1, 0] rfl (kb x2 x3 (v_X2_isSo p0 x3 (μ.1 43 (Int32.toNatClampNeg x5)) (μ.1 44 (Int32.toNatClampNeg x5)) μ) (x5 + 1) (by unfold bd_X2_fitting_18; first | (simp only [if_neg h1, if_neg h2]; done) | (simp only [if_neg h1, if_neg h2]; rfl) | rfl))
noncomputable def bd_X2_fitting_4 (p0 : Nat) (μ : Mm) (x2 : Int32) (x3 : Int32) : (Int32 × Int32) ⊕ (Int32) := (if (μ.1 p0 0) ≤ x3 then .inr x2 else (let r3 : Int32 × Int32 × Int32 := whl (fun s : Int32 × Int32 × Int32 × Int32 => bd_X2_fitting_18 p0 μ s.1 s.2.1 s.2.2.1 s.2.2.2) (fun _ : Int32 × Int32 × Int32 × Int32 => (0, 0, 0)) FU (x2, x3, 1, 0); .inl (((r3.1) ||| (if (r3.2.2) = 0 then 0 else (1 <<< ((r3.2.1) &&& 31)) : Int32)), ((r3.2.1) + 1))))
def sd_X2_fitting_4 (p0 : Nat)  (μ : Mm) (x2 : Int32) (x3 : Int32) : Prop := (¬ ((μ.1 p0 0) ≤ x3) → whP (fun s : Int32 × Int32 × Int32 × Int32 => bd_X2_fitting_18 p0 μ s.1 s.2.1 s.2.2.1 s.2.2.2) (fun s : Int32 × Int32 × Int32 × Int32 => sd_X2_fitting_18 p0  μ s.1 s.2.1 s.2.2.1 s.2.2.2) FU (x2, x3, 1, 0))
set_option maxRecDepth 20000 in
set_option maxHeartbeats 4000000 in
theorem lw_X2_fitting_4 {E : Ex} {G : Gx} {Q : Option Value → Mm → Prop} {p0 : Nat} {x2 : Int32} {x3 : Int32} {μ : Mm} (hp0 : FloorAt p0) (p : whP (fun s : Int32 × Int32 => bd_X2_fitting_4 p0 μ s.1 s.2) (fun s : Int32 × Int32 => sd_X2_fitting_4 p0  μ s.1 s.2) FU (x2, x3)) (k : ∀ r : Int32, r = whl (fun s : Int32 × Int32 => bd_X2_fitting_4 p0 μ s.1 s.2) (fun _ : Int32 × Int32 => 0) FU (x2, x3) → J E G 4 mX2_fitting Q 80 [(2, .int r)] [] μ) : J E G 4 mX2_fitting Q 4 [(0, rf E 42), (1, rf E p0), (2, .int x2), (3, .int x3)] [] μ := by
  refine J_whl (f := (fun s : Int32 × Int32 => bd_X2_fitting_4 p0 μ s.1 s.2)) (dd := (fun _ : Int32 × Int32 => 0)) (sd := (fun s : Int32 × Int32 => sd_X2_fitting_4 p0  μ s.1 s.2)) (P := fun s : Int32 × Int32 => J E G 4 mX2_fitting Q 4 [(0, rf E 42), (1, rf E p0), (2, .int (s.1)), (3, .int (s.2))] [] (μ)) (R := fun r : Int32 => J E G 4 mX2_fitting Q 80 [(2, .int r)] [] μ) ?_ FU (x2, x3) p (k _ rfl)
  clear p k
  rintro ⟨x2, x3⟩ t k1 k2
  dsimp only [sd_X2_fitting_4] at t
  have kb : ∀ (y2 : Int32) (y3 : Int32) , bd_X2_fitting_4 p0 μ x2 x3 = .inl (y2, y3) → J E G 4 mX2_fitting Q 4 [(0, rf E 42), (1, rf E p0), (2, .int y2), (3, .int y3)] [] μ := fun y2 y3  h => k1 (y2, y3) h
  have kx : ∀ (y2 : Int32) , bd_X2_fitting_4 p0 μ x2 x3 = .inr y2 → J E G 4 mX2_fitting Q 80 [(2, .int y2)] [] μ := fun y2  h => k2 y2 h
  clear k1 k2
  refine J_iload_n (dk okX2_fitting 4 rfl) 3 rfl rfl ?_
  refine J_aload_n (dk okX2_fitting 5 rfl) 1 rfl rfl ?_
  refine J_getI (dk okX2_fitting 6 rfl) kfX2_46 hp0.1 rfl ?_
  refine J_icmp_ge (tgt := 80) (dk okX2_fitting 7 rfl) (by decide) (fun h1 => ?_) (fun h1 => ?_)
  · exact J_sub [2] rfl (kx x2 (by unfold bd_X2_fitting_4; first | (simp only [if_pos h1]; done) | (simp only [if_pos h1]; rfl) | rfl))
  · have t := t h1
    refine J_iconst (v := 1) (dk okX2_fitting 8 rfl) (by decide) ?_
    refine J_istore (ls' := [(4, _), (0, _), (1, _), (2, _), (3, _)]) (dk okX2_fitting 9 rfl) (by decide) rfl ?_
    refine J_iconst (v := 0) (dk okX2_fitting 10 rfl) (by decide) ?_
    refine J_istore (ls' := [(5, _), (4, _), (0, _), (1, _), (2, _), (3, _)]) (dk okX2_fitting 11 rfl) (by decide) rfl ?_
    have s2 := t
    refine J_sub (ls' := [(0, _), (1, _), (2, _), (3, _), (4, _), (5, _)]) [2, 3, 4, 5, 1, 0] rfl ?_
    refine lw_X2_fitting_18 hp0 s2 (fun r3 er3 => ?_)
    refine J_iload_n (dk okX2_fitting 32 rfl) 2 rfl rfl ?_
    refine J_iload (dk okX2_fitting 33 rfl) 4 rfl ?_
    have K5 : J E G 4 mX2_fitting Q 72 [(0, rf E 42), (1, rf E p0), (3, .int (r3.2.1))] [.int (if (r3.2.2) = 0 then 0 else (1 <<< ((r3.2.1) &&& 31)) : Int32), .int (r3.1)] μ := by
      refine J_ior (dk okX2_fitting 40 rfl) ?_
      refine J_istore_n (ls' := [(2, _), (0, _), (1, _), (3, _)]) (dk okX2_fitting 41 rfl) rfl (by decide) rfl ?_
      refine J_iinc (v := ((r3.2.1) + 1)) (ls' := [(3, _), (2, _), (0, _), (1, _)]) (dk okX2_fitting 42 rfl) 3 rfl rfl (by decide) rfl ?_
      refine J_goto (tgt := 4) (dk okX2_fitting 43 rfl) (by decide) ?_
      exact J_sub [2, 3, 1, 0] rfl (kb ((r3.1) ||| (if (r3.2.2) = 0 then 0 else (1 <<< ((r3.2.1) &&& 31)) : Int32)) ((r3.2.1) + 1) (by subst er3; unfold bd_X2_fitting_4; first | (simp only [if_neg h1]; done) | (simp only [if_neg h1]; rfl) | rfl))
    refine J_if_eq (tgt := 71) (dk okX2_fitting 34 rfl) (by decide) (fun h4 => ?_) (fun h4 => ?_)
    · refine J_iconst (v := 0) (dk okX2_fitting 39 rfl) (by decide) ?_
      refine J_sub (ls' := [(0, _), (1, _), (3, _)]) [0, 1, 3] rfl ?_
      (try simp only [if_pos h4] at K5 ⊢); exact K5
    · refine J_iconst (v := 1) (dk okX2_fitting 35 rfl) (by decide) ?_
      refine J_iload_n (dk okX2_fitting 36 rfl) 3 rfl rfl ?_
      refine J_ishl (dk okX2_fitting 37 rfl) ?_
      refine J_goto (tgt := 72) (dk okX2_fitting 38 rfl) (by decide) ?_
      refine J_sub (ls' := [(0, _), (1, _), (3, _)]) [0, 1, 3] rfl ?_
      (try simp only [if_neg h4] at K5 ⊢); exact K5
/-- VotingFloor$Hearsay.fitting(LVotingFloor$Floor;)I -/
noncomputable def v_X2_fitting (p0 : Nat) (μ : Mm) : Int32 := (let r2 : Int32 := whl (fun s : Int32 × Int32 => bd_X2_fitting_4 p0 μ s.1 s.2) (fun _ : Int32 × Int32 => 0) FU (0, 0); r2)
def p_X2_fitting (p0 : Nat)  (μ : Mm) : Prop := whP (fun s : Int32 × Int32 => bd_X2_fitting_4 p0 μ s.1 s.2) (fun s : Int32 × Int32 => sd_X2_fitting_4 p0  μ s.1 s.2) FU (0, 0)
set_option maxRecDepth 20000 in
set_option maxHeartbeats 4000000 in
theorem con_X2_fitting {E : Ex} {Q : Option Value → Mm → Prop} {p0 : Nat} {μ : Mm} (hp0 : FloorAt p0) (t : p_X2_fitting p0  μ) (k : Q (some (.int (v_X2_fitting p0 μ))) μ) : Con E 4 mX2_fitting [rf E 42, rf E p0] μ Q := by
  refine Con_J (by decide +kernel) (Nat.le_of_ble_eq_true rfl) (fun G => ?_)
  unfold v_X2_fitting at k
  unfold p_X2_fitting at t
  refine J_sub (ls' := [(0, rf E 42), (1, rf E p0)]) [0, 1] rfl ?_
  refine J_iconst (v := 0) (dk okX2_fitting 0 rfl) (by decide) ?_
  refine J_istore_n (ls' := [(2, _), (0, _), (1, _)]) (dk okX2_fitting 1 rfl) rfl (by decide) rfl ?_
  refine J_iconst (v := 0) (dk okX2_fitting 2 rfl) (by decide) ?_
  refine J_istore_n (ls' := [(3, _), (2, _), (0, _), (1, _)]) (dk okX2_fitting 3 rfl) rfl (by decide) rfl ?_
  have s1 := t
  refine J_sub (ls' := [(0, _), (1, _), (2, _), (3, _)]) [2, 3, 1, 0] rfl ?_
  refine lw_X2_fitting_4 hp0 s1 (fun r2 er2 => ?_)
  refine J_iload_n (dk okX2_fitting 44 rfl) 0 rfl rfl ?_
  subst er2
  exact J_iret (dk okX2_fitting 45 rfl) rfl k
noncomputable def bd_X2_leftAtMost_6 (p0 : Nat) (μ : Mm) (x1 : Int32) (x2 : Int32) (x3 : Int32) (x4 : Int32) (x5 : Int32) : (Int32 × Int32 × Int32 × Int32 × Int32) ⊕ (Int32 × Int32) := (if (μ.1 p0 0) ≤ x5 then .inr (x1, x4) else .inl (x1, x2, x3, (x4 + (if (v_X11_isIn x1 x5) = 0 then 0 else (if (v_X2_isSo p0 x5 x2 x3 μ) = 0 then 0 else 1 : Int32) : Int32)), (x5 + 1)))
def sd_X2_leftAtMost_6 (p0 : Nat)  (μ : Mm) (x1 : Int32) (x2 : Int32) (x3 : Int32) (x4 : Int32) (x5 : Int32) : Prop := (¬ ((μ.1 p0 0) ≤ x5) → (¬ ((v_X11_isIn x1 x5) = 0) → p_X2_isSo p0 x5 x2 x3 μ))
set_option maxRecDepth 20000 in
set_option maxHeartbeats 4000000 in
theorem lw_X2_leftAtMost_6 {E : Ex} {G : Gx} {Q : Option Value → Mm → Prop} {p0 : Nat} {x1 : Int32} {x2 : Int32} {x3 : Int32} {x4 : Int32} {x5 : Int32} {μ : Mm} (hp0 : FloorAt p0) (p : whP (fun s : Int32 × Int32 × Int32 × Int32 × Int32 => bd_X2_leftAtMost_6 p0 μ s.1 s.2.1 s.2.2.1 s.2.2.2.1 s.2.2.2.2) (fun s : Int32 × Int32 × Int32 × Int32 × Int32 => sd_X2_leftAtMost_6 p0  μ s.1 s.2.1 s.2.2.1 s.2.2.2.1 s.2.2.2.2) FU (x1, x2, x3, x4, x5)) (k : ∀ r : Int32 × Int32, r = whl (fun s : Int32 × Int32 × Int32 × Int32 × Int32 => bd_X2_leftAtMost_6 p0 μ s.1 s.2.1 s.2.2.1 s.2.2.2.1 s.2.2.2.2) (fun _ : Int32 × Int32 × Int32 × Int32 × Int32 => (0, 0)) FU (x1, x2, x3, x4, x5) → J E G 4 mX2_leftAtMost Q 51 [(1, .int (r.1)), (4, .int (r.2))] [] μ) : J E G 4 mX2_leftAtMost Q 6 [(0, rf E p0), (1, .int x1), (2, .int x2), (3, .int x3), (4, .int x4), (5, .int x5)] [] μ := by
  refine J_whl (f := (fun s : Int32 × Int32 × Int32 × Int32 × Int32 => bd_X2_leftAtMost_6 p0 μ s.1 s.2.1 s.2.2.1 s.2.2.2.1 s.2.2.2.2)) (dd := (fun _ : Int32 × Int32 × Int32 × Int32 × Int32 => (0, 0))) (sd := (fun s : Int32 × Int32 × Int32 × Int32 × Int32 => sd_X2_leftAtMost_6 p0  μ s.1 s.2.1 s.2.2.1 s.2.2.2.1 s.2.2.2.2)) (P := fun s : Int32 × Int32 × Int32 × Int32 × Int32 => J E G 4 mX2_leftAtMost Q 6 [(0, rf E p0), (1, .int (s.1)), (2, .int (s.2.1)), (3, .int (s.2.2.1)), (4, .int (s.2.2.2.1)), (5, .int (s.2.2.2.2))] [] (μ)) (R := fun r : Int32 × Int32 => J E G 4 mX2_leftAtMost Q 51 [(1, .int (r.1)), (4, .int (r.2))] [] μ) ?_ FU (x1, x2, x3, x4, x5) p (k _ rfl)
  clear p k
  rintro ⟨x1, x2, x3, x4, x5⟩ t k1 k2
  dsimp only [sd_X2_leftAtMost_6] at t
  have kb : ∀ (y1 : Int32) (y2 : Int32) (y3 : Int32) (y4 : Int32) (y5 : Int32) , bd_X2_leftAtMost_6 p0 μ x1 x2 x3 x4 x5 = .inl (y1, y2, y3, y4, y5) → J E G 4 mX2_leftAtMost Q 6 [(0, rf E p0), (1, .int y1), (2, .int y2), (3, .int y3), (4, .int y4), (5, .int y5)] [] μ := fun y1 y2 y3 y4 y5  h => k1 (y1, y2, y3, y4, y5) h
  have kx : ∀ (y1 : Int32) (y4 : Int32) , bd_X2_leftAtMost_6 p0 μ x1 x2 x3 x4 x5 = .inr (y1, y4) → J E G 4 mX2_leftAtMost Q 51 [(1, .int y1), (4, .int y4)] [] μ := fun y1 y4  h => k2 (y1, y4) h
  clear k1 k2
  refine J_iload (dk okX2_leftAtMost 4 rfl) 5 rfl ?_
  refine J_aload_n (dk okX2_leftAtMost 5 rfl) 0 rfl rfl ?_
  refine J_getI (dk okX2_leftAtMost 6 rfl) kfX2_46 hp0.1 rfl ?_
  refine J_icmp_ge (tgt := 51) (dk okX2_leftAtMost 7 rfl) (by decide) (fun h1 => ?_) (fun h1 => ?_)
  · exact J_sub [1, 4] rfl (kx x1 x4 (by unfold bd_X2_leftAtMost_6; first | (simp only [if_pos h1]; done) | (simp only [if_pos h1]; rfl) | rfl))
  · have t := t h1
    refine J_iload (dk okX2_leftAtMost 8 rfl) 4 rfl ?_
    refine J_iload_n (dk okX2_leftAtMost 9 rfl) 1 rfl rfl ?_
    refine J_iload (dk okX2_leftAtMost 10 rfl) 5 rfl ?_
    refine J_callSNi (As := [.int x1, .int x5]) (dk okX2_leftAtMost 11 rfl) skX11_isIn lkX2_53 rfl rfl (Nat.le_of_ble_eq_true rfl) (by decide) (con_X11_isIn  ⟨_, rfl, ?_⟩)
    have K5 : J E G 4 mX2_leftAtMost Q 42 [(0, rf E p0), (1, .int x1), (2, .int x2), (3, .int x3), (5, .int x5)] [.int (if (v_X11_isIn x1 x5) = 0 then 0 else (if (v_X2_isSo p0 x5 x2 x3 μ) = 0 then 0 else 1 : Int32) : Int32), .int x4] μ := by
      refine J_iadd (dk okX2_leftAtMost 22 rfl) ?_
      refine J_istore (ls' := [(4, _), (0, _), (1, _), (2, _), (3, _), (5, _)]) (dk okX2_leftAtMost 23 rfl) (by decide) rfl ?_
      refine J_iinc (v := (x5 + 1)) (ls' := [(5, _), (4, _), (0, _), (1, _), (2, _), (3, _)]) (dk okX2_leftAtMost 24 rfl) 5 rfl rfl (by decide) rfl ?_
      refine J_goto (tgt := 6) (dk okX2_leftAtMost 25 rfl) (by decide) ?_
      exact J_sub [2, 3, 4, 5, 1, 0] rfl (kb x1 x2 x3 (x4 + (if (v_X11_isIn x1 x5) = 0 then 0 else (if (v_X2_isSo p0 x5 x2 x3 μ) = 0 then 0 else 1 : Int32) : Int32)) (x5 + 1) (by unfold bd_X2_leftAtMost_6; first | (simp only [if_neg h1]; done) | (simp only [if_neg h1]; rfl) | rfl))
    refine J_if_eq (tgt := 41) (dk okX2_leftAtMost 12 rfl) (by decide) (fun h2 => ?_) (fun h2 => ?_)
    · refine J_iconst (v := 0) (dk okX2_leftAtMost 21 rfl) (by decide) ?_
      refine J_sub (ls' := [(0, _), (1, _), (2, _), (3, _), (5, _)]) [0, 1, 2, 3, 5] rfl ?_
      (try simp only [if_pos h2] at K5 ⊢); exact K5
    · have t := t h2
      refine J_aload_n (dk okX2_leftAtMost 13 rfl) 0 rfl rfl ?_
      refine J_iload (dk okX2_leftAtMost 14 rfl) 5 rfl ?_
      refine J_iload_n (dk okX2_leftAtMost 15 rfl) 2 rfl rfl ?_
      refine J_iload_n (dk okX2_leftAtMost 16 rfl) 3 rfl rfl ?_
      have s3 := t
      refine J_callSi (As := [rf E p0, .int x5, .int x2, .int x3]) (dk okX2_leftAtMost 17 rfl) skX2_isSo lkX2_49 rfl rfl (Nat.le_of_ble_eq_true rfl) (by decide) (con_X2_isSo hp0 s3 ⟨_, rfl, ?_⟩)
      refine J_if_eq (tgt := 41) (dk okX2_leftAtMost 18 rfl) (by decide) (fun h4 => ?_) (fun h4 => ?_)
      · refine J_iconst (v := 0) (dk okX2_leftAtMost 21 rfl) (by decide) ?_
        refine J_sub (ls' := [(0, _), (1, _), (2, _), (3, _), (5, _)]) [0, 1, 2, 3, 5] rfl ?_
        (try simp only [if_neg h2, if_pos h4] at K5 ⊢); exact K5
      · refine J_iconst (v := 1) (dk okX2_leftAtMost 19 rfl) (by decide) ?_
        refine J_goto (tgt := 42) (dk okX2_leftAtMost 20 rfl) (by decide) ?_
        refine J_sub (ls' := [(0, _), (1, _), (2, _), (3, _), (5, _)]) [0, 1, 2, 3, 5] rfl ?_
        (try simp only [if_neg h2, if_neg h4] at K5 ⊢); exact K5
/-- VotingFloor$Hearsay.leftAtMost(LVotingFloor$Floor;III)I -/
noncomputable def v_X2_leftAtMost (p0 : Nat) (p1 : Int32) (p2 : Int32) (p3 : Int32) (μ : Mm) : Int32 := (let r2 : Int32 × Int32 := whl (fun s : Int32 × Int32 × Int32 × Int32 × Int32 => bd_X2_leftAtMost_6 p0 μ s.1 s.2.1 s.2.2.1 s.2.2.2.1 s.2.2.2.2) (fun _ : Int32 × Int32 × Int32 × Int32 × Int32 => (0, 0)) FU (p1, p2, p3, 0, 0); (if (r2.2) < ((v_J6_bitCount_0f7a4 (r2.1)) - (r2.2)) then ((v_J6_bitCount_0f7a4 (r2.1)) - (r2.2)) else (r2.2)))
def p_X2_leftAtMost (p0 : Nat) (p1 : Int32) (p2 : Int32) (p3 : Int32)  (μ : Mm) : Prop := whP (fun s : Int32 × Int32 × Int32 × Int32 × Int32 => bd_X2_leftAtMost_6 p0 μ s.1 s.2.1 s.2.2.1 s.2.2.2.1 s.2.2.2.2) (fun s : Int32 × Int32 × Int32 × Int32 × Int32 => sd_X2_leftAtMost_6 p0  μ s.1 s.2.1 s.2.2.1 s.2.2.2.1 s.2.2.2.2) FU (p1, p2, p3, 0, 0)
set_option maxRecDepth 20000 in
set_option maxHeartbeats 4000000 in
theorem con_X2_leftAtMost {E : Ex} {Q : Option Value → Mm → Prop} {p0 : Nat} {p1 : Int32} {p2 : Int32} {p3 : Int32} {μ : Mm} (hp0 : FloorAt p0) (t : p_X2_leftAtMost p0 p1 p2 p3  μ) (k : Q (some (.int (v_X2_leftAtMost p0 p1 p2 p3 μ))) μ) : Con E 4 mX2_leftAtMost [rf E p0, .int p1, .int p2, .int p3] μ Q := by
  refine Con_J (by decide +kernel) (Nat.le_of_ble_eq_true rfl) (fun G => ?_)
  unfold v_X2_leftAtMost at k
  unfold p_X2_leftAtMost at t
  refine J_sub (ls' := [(0, rf E p0), (1, .int p1), (2, .int p2), (3, .int p3)]) [0, 1, 2, 3] rfl ?_
  refine J_iconst (v := 0) (dk okX2_leftAtMost 0 rfl) (by decide) ?_
  refine J_istore (ls' := [(4, _), (0, _), (1, _), (2, _), (3, _)]) (dk okX2_leftAtMost 1 rfl) (by decide) rfl ?_
  refine J_iconst (v := 0) (dk okX2_leftAtMost 2 rfl) (by decide) ?_
  refine J_istore (ls' := [(5, _), (4, _), (0, _), (1, _), (2, _), (3, _)]) (dk okX2_leftAtMost 3 rfl) (by decide) rfl ?_
  have s1 := t
  refine J_sub (ls' := [(0, _), (1, _), (2, _), (3, _), (4, _), (5, _)]) [2, 3, 4, 5, 1, 0] rfl ?_
  refine lw_X2_leftAtMost_6 hp0 s1 (fun r2 er2 => ?_)
  refine J_iload (dk okX2_leftAtMost 26 rfl) 1 rfl ?_
  refine J_iload_n (dk okX2_leftAtMost 27 rfl) 0 rfl rfl ?_
  refine J_callSi (As := [.int (r2.1)]) (dk okX2_leftAtMost 28 rfl) skJ6_bitCount_0f7a4 lkX2_57 rfl rfl (Nat.le_of_ble_eq_true rfl) (by decide) (con_J6_bitCount_0f7a4  ⟨_, rfl, ?_⟩)
  refine J_iload (dk okX2_leftAtMost 29 rfl) 1 rfl ?_
  refine J_isub (dk okX2_leftAtMost 30 rfl) ?_
  refine J_mmax (dk okX2_leftAtMost 31 rfl) lkX2_62 mk_max_s mk_Math mk_max_c (by decide) (Nat.le_of_ble_eq_true rfl) ?_
  subst er2
  exact J_iret (dk okX2_leftAtMost 32 rfl) rfl k
/-- VotingFloor$Rule.takeBehindThing(C)Z -/
noncomputable def v_X5_takeBehindThing (b : Nat) (p0 : Int32) (μ : Mm) : Int32 := (if (v_X9_isDigit p0) = 0 then (let μ2 : Mm := (upI μ b 8 0); (if p0 = 41 then (v_X5_close b μ2) else (if (v_X5_rankOf p0) < 1 then 0 else (if p0 = 126 then 0 else (if (v_X5_rankOf p0) = 1 then (if (v_X11_isIn (μ2.1 b 7) (μ2.1 b 6)) = 0 then 1 else 0) else 1))))) else (v_X5_takeDigit b (p0 - 48) μ))
noncomputable def e_X5_takeBehindThing (b : Nat) (p0 : Int32) (μ : Mm) : Mm := (if (v_X9_isDigit p0) = 0 then (let μ2 : Mm := (upI μ b 8 0); (if p0 = 41 then (let μ5 : Mm := (e_X5_close b μ2); μ5) else (if (v_X5_rankOf p0) < 1 then μ2 else (if p0 = 126 then μ2 else (if (v_X5_rankOf p0) = 1 then (if (v_X11_isIn (μ2.1 b 7) (μ2.1 b 6)) = 0 then (let μ13 : Mm := (upI μ2 b 7 ((μ2.1 b 7) ||| (1 <<< ((μ2.1 b 6) &&& 31)))); (let μ15 : Mm := (e_X5_emitWaiting b (v_X5_rankOf p0) μ13); (let μ17 : Mm := (e_X4_push (b + 3) p0 μ15); (let μ18 : Mm := (upI μ17 b 5 1); μ18)))) else μ2) else (let μ22 : Mm := (e_X5_emitWaiting b (v_X5_rankOf p0) μ2); (let μ24 : Mm := (e_X4_push (b + 3) p0 μ22); (let μ25 : Mm := (upI μ24 b 5 1); μ25)))))))) else (let μ27 : Mm := (e_X5_takeDigit b (p0 - 48) μ); μ27))
def p_X5_takeBehindThing (b : Nat) (p0 : Int32)  (μ : Mm) : Prop := (((v_X9_isDigit p0) = 0 → (∀ μ2 : Mm, μ2 = (upI μ b 8 0) → ((p0 = 41 → p_X5_close b μ2) ∧ (¬ (p0 = 41) → (¬ ((v_X5_rankOf p0) < 1) → (¬ (p0 = 126) → (((v_X5_rankOf p0) = 1 → ((v_X11_isIn (μ2.1 b 7) (μ2.1 b 6)) = 0 → (∀ μ13 : Mm, μ13 = (upI μ2 b 7 ((μ2.1 b 7) ||| (1 <<< ((μ2.1 b 6) &&& 31)))) → (p_X5_emitWaiting b (v_X5_rankOf p0) μ13) ∧ (∀ μ15 : Mm, μ15 = (e_X5_emitWaiting b (v_X5_rankOf p0) μ13) → p_X4_push (b + 3) p0 μ15)))) ∧ (¬ ((v_X5_rankOf p0) = 1) → (p_X5_emitWaiting b (v_X5_rankOf p0) μ2) ∧ (∀ μ22 : Mm, μ22 = (e_X5_emitWaiting b (v_X5_rankOf p0) μ2) → p_X4_push (b + 3) p0 μ22))))))))) ∧ (¬ ((v_X9_isDigit p0) = 0) → p_X5_takeDigit b (p0 - 48) μ))
set_option maxRecDepth 20000 in
set_option maxHeartbeats 4000000 in
theorem con_X5_takeBehindThing {E : Ex} {Q : Option Value → Mm → Prop} {b : Nat} {p0 : Int32} {μ : Mm} (hb : RuleAt b) (t : p_X5_takeBehindThing b p0  μ) (k : Q (some (.int (v_X5_takeBehindThing b p0 μ))) (e_X5_takeBehindThing b p0 μ)) : Con E 4 mX5_takeBehindThing [rf E b, .int p0] μ Q := by
  refine Con_J (by decide +kernel) (Nat.le_of_ble_eq_true rfl) (fun G => ?_)
  unfold v_X5_takeBehindThing e_X5_takeBehindThing at k
  unfold p_X5_takeBehindThing at t
  refine J_sub (ls' := [(0, rf E b), (1, .int p0)]) [0, 1] rfl ?_
  refine J_iload_n (dk okX5_takeBehindThing 0 rfl) 1 rfl rfl ?_
  refine J_callSi (As := [.int p0]) (dk okX5_takeBehindThing 1 rfl) skX9_isDigit lkX5_96 rfl rfl (Nat.le_of_ble_eq_true rfl) (by decide) (con_X9_isDigit  ⟨_, rfl, ?_⟩)
  refine J_if_eq (tgt := 16) (dk okX5_takeBehindThing 2 rfl) (by decide) (fun h1 => ?_) (fun h1 => ?_)
  · have t := t.1 h1
    refine J_aload_n (dk okX5_takeBehindThing 9 rfl) 0 rfl rfl ?_
    refine J_iconst (v := 0) (dk okX5_takeBehindThing 10 rfl) (by decide) ?_
    refine J_put (dk okX5_takeBehindThing 11 rfl) kpX5_42 hb.1 rfl rfl rfl ?_
    refine J_nm (fun μ2 eμ2 => ?_)
    have t := t μ2 eμ2
    refine J_iload_n (dk okX5_takeBehindThing 12 rfl) 1 rfl rfl ?_
    refine J_bipush (v := 41) (dk okX5_takeBehindThing 13 rfl) (by decide) ?_
    refine J_icmp_ne (tgt := 32) (dk okX5_takeBehindThing 14 rfl) (by decide) (fun h3 => ?_) (fun h3 => ?_)
    · have t := t.2 h3
      refine J_iload_n (dk okX5_takeBehindThing 18 rfl) 1 rfl rfl ?_
      refine J_callSi (As := [.int p0]) (dk okX5_takeBehindThing 19 rfl) skX5_rankOf lkX5_106 rfl rfl (Nat.le_of_ble_eq_true rfl) (by decide) (con_X5_rankOf  ⟨_, rfl, ?_⟩)
      refine J_istore_n (ls' := [(2, _), (0, _), (1, _)]) (dk okX5_takeBehindThing 20 rfl) rfl (by decide) rfl ?_
      refine J_iload_n (dk okX5_takeBehindThing 21 rfl) 0 rfl rfl ?_
      refine J_iconst (v := 1) (dk okX5_takeBehindThing 22 rfl) (by decide) ?_
      refine J_icmp_lt (tgt := 67) (dk okX5_takeBehindThing 23 rfl) (by decide) (fun h6 => ?_) (fun h6 => ?_)
      · refine J_iconst (v := 0) (dk okX5_takeBehindThing 36 rfl) (by decide) ?_
        subst eμ2
        (try simp only [if_pos h1, if_neg h3, if_pos h6] at k ⊢)
        exact J_zret (dk okX5_takeBehindThing 37 rfl) rfl rfl k
      · have t := t h6
        refine J_iload_n (dk okX5_takeBehindThing 24 rfl) 2 rfl rfl ?_
        refine J_bipush (v := 126) (dk okX5_takeBehindThing 25 rfl) (by decide) ?_
        refine J_icmp_eq (tgt := 67) (dk okX5_takeBehindThing 26 rfl) (by decide) (fun h7 => ?_) (fun h7 => ?_)
        · refine J_iconst (v := 0) (dk okX5_takeBehindThing 36 rfl) (by decide) ?_
          subst eμ2
          (try simp only [if_pos h1, if_neg h3, if_neg h6, if_pos h7] at k ⊢)
          exact J_zret (dk okX5_takeBehindThing 37 rfl) rfl rfl k
        · have t := t h7
          refine J_iload_n (dk okX5_takeBehindThing 27 rfl) 0 rfl rfl ?_
          refine J_iconst (v := 1) (dk okX5_takeBehindThing 28 rfl) (by decide) ?_
          refine J_icmp_ne (tgt := 69) (dk okX5_takeBehindThing 29 rfl) (by decide) (fun h8 => ?_) (fun h8 => ?_)
          · have t := t.2 h8
            refine J_iload_n (dk okX5_takeBehindThing 38 rfl) 0 rfl rfl ?_
            refine J_iconst (v := 1) (dk okX5_takeBehindThing 39 rfl) (by decide) ?_
            refine J_icmp_ne (tgt := 89) (dk okX5_takeBehindThing 40 rfl) (by decide) (fun h20 => ?_) (fun h20 => absurd h20 h8)
            refine J_aload_n (dk okX5_takeBehindThing 50 rfl) 1 rfl rfl ?_
            refine J_iload_n (dk okX5_takeBehindThing 51 rfl) 0 rfl rfl ?_
            obtain ⟨s21, t⟩ := t
            refine J_callVv (As := [.int (v_X5_rankOf p0)]) (dk okX5_takeBehindThing 52 rfl) hb.1 rfl vkX5_emitWaiting lkX5_71 rfl rfl (Nat.le_of_ble_eq_true rfl) (by decide) (con_X5_emitWaiting hb s21 ⟨rfl, ?_⟩)
            refine J_nm (fun μ22 eμ22 => ?_)
            have t := t μ22 eμ22
            refine J_aload_n (dk okX5_takeBehindThing 53 rfl) 1 rfl rfl ?_
            refine J_getR (dk okX5_takeBehindThing 54 rfl) kfX5_29 hb.1 rfl ?_
            refine J_iload_n (dk okX5_takeBehindThing 55 rfl) 2 rfl rfl ?_
            have s23 := t
            refine J_callVv (As := [.int p0]) (dk okX5_takeBehindThing 56 rfl) hb.2.2.2.1 rfl vkX4_push lkX5_81 rfl rfl (Nat.le_of_ble_eq_true rfl) (by decide) (con_X4_push (RuleAt_pile hb) s23 ⟨rfl, ?_⟩)
            refine J_nm (fun μ24 eμ24 => ?_)
            refine J_aload_n (dk okX5_takeBehindThing 57 rfl) 1 rfl rfl ?_
            refine J_iconst (v := 1) (dk okX5_takeBehindThing 58 rfl) (by decide) ?_
            refine J_put (dk okX5_takeBehindThing 59 rfl) kpX5_33 hb.1 rfl rfl rfl ?_
            refine J_nm (fun μ25 eμ25 => ?_)
            refine J_iconst (v := 1) (dk okX5_takeBehindThing 60 rfl) (by decide) ?_
            subst eμ25 eμ24 eμ22 eμ2
            (try simp only [if_pos h1, if_neg h3, if_neg h6, if_neg h7, if_neg h8] at k ⊢)
            exact J_zret (dk okX5_takeBehindThing 61 rfl) rfl rfl k
          · have t := t.1 h8
            refine J_aload_n (dk okX5_takeBehindThing 30 rfl) 1 rfl rfl ?_
            refine J_getI (dk okX5_takeBehindThing 31 rfl) kfX5_39 hb.1 rfl ?_
            refine J_aload_n (dk okX5_takeBehindThing 32 rfl) 1 rfl rfl ?_
            refine J_getI (dk okX5_takeBehindThing 33 rfl) kfX5_36 hb.1 rfl ?_
            refine J_callSNi (As := [.int (μ2.1 b 7), .int (μ2.1 b 6)]) (dk okX5_takeBehindThing 34 rfl) skX11_isIn lkX5_109 rfl rfl (Nat.le_of_ble_eq_true rfl) (by decide) (con_X11_isIn  ⟨_, rfl, ?_⟩)
            refine J_if_eq (tgt := 69) (dk okX5_takeBehindThing 35 rfl) (by decide) (fun h9 => ?_) (fun h9 => ?_)
            · have t := t h9
              refine J_iload_n (dk okX5_takeBehindThing 38 rfl) 0 rfl rfl ?_
              refine J_iconst (v := 1) (dk okX5_takeBehindThing 39 rfl) (by decide) ?_
              refine J_icmp_ne (tgt := 89) (dk okX5_takeBehindThing 40 rfl) (by decide) (fun h12 => absurd h8 h12) (fun h12 => ?_)
              refine J_aload_n (dk okX5_takeBehindThing 41 rfl) 1 rfl rfl ?_
              refine J_dup (dk okX5_takeBehindThing 42 rfl) rfl ?_
              refine J_getI (dk okX5_takeBehindThing 43 rfl) kfX5_39 hb.1 rfl ?_
              refine J_iconst (v := 1) (dk okX5_takeBehindThing 44 rfl) (by decide) ?_
              refine J_aload_n (dk okX5_takeBehindThing 45 rfl) 1 rfl rfl ?_
              refine J_getI (dk okX5_takeBehindThing 46 rfl) kfX5_36 hb.1 rfl ?_
              refine J_ishl (dk okX5_takeBehindThing 47 rfl) ?_
              refine J_ior (dk okX5_takeBehindThing 48 rfl) ?_
              refine J_put (dk okX5_takeBehindThing 49 rfl) kpX5_39 hb.1 rfl rfl rfl ?_
              refine J_nm (fun μ13 eμ13 => ?_)
              have t := t μ13 eμ13
              refine J_aload_n (dk okX5_takeBehindThing 50 rfl) 1 rfl rfl ?_
              refine J_iload_n (dk okX5_takeBehindThing 51 rfl) 0 rfl rfl ?_
              obtain ⟨s14, t⟩ := t
              refine J_callVv (As := [.int (v_X5_rankOf p0)]) (dk okX5_takeBehindThing 52 rfl) hb.1 rfl vkX5_emitWaiting lkX5_71 rfl rfl (Nat.le_of_ble_eq_true rfl) (by decide) (con_X5_emitWaiting hb s14 ⟨rfl, ?_⟩)
              refine J_nm (fun μ15 eμ15 => ?_)
              have t := t μ15 eμ15
              refine J_aload_n (dk okX5_takeBehindThing 53 rfl) 1 rfl rfl ?_
              refine J_getR (dk okX5_takeBehindThing 54 rfl) kfX5_29 hb.1 rfl ?_
              refine J_iload_n (dk okX5_takeBehindThing 55 rfl) 2 rfl rfl ?_
              have s16 := t
              refine J_callVv (As := [.int p0]) (dk okX5_takeBehindThing 56 rfl) hb.2.2.2.1 rfl vkX4_push lkX5_81 rfl rfl (Nat.le_of_ble_eq_true rfl) (by decide) (con_X4_push (RuleAt_pile hb) s16 ⟨rfl, ?_⟩)
              refine J_nm (fun μ17 eμ17 => ?_)
              refine J_aload_n (dk okX5_takeBehindThing 57 rfl) 1 rfl rfl ?_
              refine J_iconst (v := 1) (dk okX5_takeBehindThing 58 rfl) (by decide) ?_
              refine J_put (dk okX5_takeBehindThing 59 rfl) kpX5_33 hb.1 rfl rfl rfl ?_
              refine J_nm (fun μ18 eμ18 => ?_)
              refine J_iconst (v := 1) (dk okX5_takeBehindThing 60 rfl) (by decide) ?_
              subst eμ18 eμ17 eμ15 eμ13 eμ2
              (try simp only [if_pos h1, if_neg h3, if_neg h6, if_neg h7, if_pos h8, if_pos h9] at k ⊢)
              exact J_zret (dk okX5_takeBehindThing 61 rfl) rfl rfl k
            · refine J_iconst (v := 0) (dk okX5_takeBehindThing 36 rfl) (by decide) ?_
              subst eμ2
              (try simp only [if_pos h1, if_neg h3, if_neg h6, if_neg h7, if_pos h8, if_neg h9] at k ⊢)
              exact J_zret (dk okX5_takeBehindThing 37 rfl) rfl rfl k
    · have t := t.1 h3
      refine J_aload_n (dk okX5_takeBehindThing 15 rfl) 0 rfl rfl ?_
      have s4 := t
      refine J_callVi (As := []) (dk okX5_takeBehindThing 16 rfl) hb.1 rfl vkX5_close lkX5_103 rfl rfl (Nat.le_of_ble_eq_true rfl) (by decide) (con_X5_close hb s4 ⟨_, rfl, ?_⟩)
      refine J_nm (fun μ5 eμ5 => ?_)
      subst eμ5 eμ2
      (try simp only [if_pos h1, if_pos h3] at k ⊢)
      exact J_zret (dk okX5_takeBehindThing 17 rfl) rfl (nb_X5_close _ _) k
  · have t := t.2 h1
    refine J_aload_n (dk okX5_takeBehindThing 3 rfl) 0 rfl rfl ?_
    refine J_iload_n (dk okX5_takeBehindThing 4 rfl) 1 rfl rfl ?_
    refine J_bipush (v := 48) (dk okX5_takeBehindThing 5 rfl) (by decide) ?_
    refine J_isub (dk okX5_takeBehindThing 6 rfl) ?_
    have s26 := t
    refine J_callVi (As := [.int (p0 - 48)]) (dk okX5_takeBehindThing 7 rfl) hb.1 rfl vkX5_takeDigit lkX5_99 rfl rfl (Nat.le_of_ble_eq_true rfl) (by decide) (con_X5_takeDigit hb s26 ⟨_, rfl, ?_⟩)
    refine J_nm (fun μ27 eμ27 => ?_)
    subst eμ27
    (try simp only [if_neg h1] at k ⊢)
    exact J_zret (dk okX5_takeBehindThing 8 rfl) rfl (nb_X5_takeDigit _ _ _) k
noncomputable def bd_X11_asks_36  (μ : Mm) (x1 : Int32) (x2 : Int32) (x3 : Int32) (x4 : Int32) (x5 : Int32) : (Int32 × Int32 × Int32 × Int32 × Int32) ⊕ (Int32 × Int32 × Int32 × Int32) := (if 18 < x5 then .inr (x1, x2, x3, x4) else .inl (x1, (if (v_X2_mayBe x4 x5) = 0 then x2 else (if x2 = (-2) then ((20 * x4) + x5) else (if x3 ≤ (v_X2_leftAtMost 1 x1 x4 x5 μ) then x2 else ((20 * x4) + x5) : Int32) : Int32) : Int32), (if (v_X2_mayBe x4 x5) = 0 then x3 else (if x2 = (-2) then (v_X2_leftAtMost 1 x1 x4 x5 μ) else (if x3 ≤ (v_X2_leftAtMost 1 x1 x4 x5 μ) then x3 else (v_X2_leftAtMost 1 x1 x4 x5 μ) : Int32) : Int32) : Int32), x4, (x5 + 1)))
def sd_X11_asks_36   (μ : Mm) (x1 : Int32) (x2 : Int32) (x3 : Int32) (x4 : Int32) (x5 : Int32) : Prop := (¬ (18 < x5) → (¬ ((v_X2_mayBe x4 x5) = 0) → p_X2_leftAtMost 1 x1 x4 x5 μ))
set_option maxRecDepth 20000 in
set_option maxHeartbeats 4000000 in
theorem lw_X11_asks_36 {E : Ex} {G : Gx} {Q : Option Value → Mm → Prop} {x1 : Int32} {x2 : Int32} {x3 : Int32} {x4 : Int32} {x5 : Int32} {μ : Mm}  (p : whP (fun s : Int32 × Int32 × Int32 × Int32 × Int32 => bd_X11_asks_36  μ s.1 s.2.1 s.2.2.1 s.2.2.2.1 s.2.2.2.2) (fun s : Int32 × Int32 × Int32 × Int32 × Int32 => sd_X11_asks_36   μ s.1 s.2.1 s.2.2.1 s.2.2.2.1 s.2.2.2.2) FU (x1, x2, x3, x4, x5)) (k : ∀ r : Int32 × Int32 × Int32 × Int32, r = whl (fun s : Int32 × Int32 × Int32 × Int32 × Int32 => bd_X11_asks_36  μ s.1 s.2.1 s.2.2.1 s.2.2.2.1 s.2.2.2.2) (fun _ : Int32 × Int32 × Int32 × Int32 × Int32 => (0, 0, 0, 0)) FU (x1, x2, x3, x4, x5) → J E G 5 mX11_asks Q 97 [(0, rf E 0), (1, .int (r.1)), (2, .int (r.2.1)), (3, .int (r.2.2.1)), (4, .int (r.2.2.2))] [] μ) : J E G 5 mX11_asks Q 36 [(0, rf E 0), (1, .int x1), (2, .int x2), (3, .int x3), (4, .int x4), (5, .int x5)] [] μ := by
  refine J_whl (f := (fun s : Int32 × Int32 × Int32 × Int32 × Int32 => bd_X11_asks_36  μ s.1 s.2.1 s.2.2.1 s.2.2.2.1 s.2.2.2.2)) (dd := (fun _ : Int32 × Int32 × Int32 × Int32 × Int32 => (0, 0, 0, 0))) (sd := (fun s : Int32 × Int32 × Int32 × Int32 × Int32 => sd_X11_asks_36   μ s.1 s.2.1 s.2.2.1 s.2.2.2.1 s.2.2.2.2)) (P := fun s : Int32 × Int32 × Int32 × Int32 × Int32 => J E G 5 mX11_asks Q 36 [(0, rf E 0), (1, .int (s.1)), (2, .int (s.2.1)), (3, .int (s.2.2.1)), (4, .int (s.2.2.2.1)), (5, .int (s.2.2.2.2))] [] (μ)) (R := fun r : Int32 × Int32 × Int32 × Int32 => J E G 5 mX11_asks Q 97 [(0, rf E 0), (1, .int (r.1)), (2, .int (r.2.1)), (3, .int (r.2.2.1)), (4, .int (r.2.2.2))] [] μ) ?_ FU (x1, x2, x3, x4, x5) p (k _ rfl)
  clear p k
  rintro ⟨x1, x2, x3, x4, x5⟩ t k1 k2
  dsimp only [sd_X11_asks_36] at t
  have kb : ∀ (y1 : Int32) (y2 : Int32) (y3 : Int32) (y4 : Int32) (y5 : Int32) , bd_X11_asks_36  μ x1 x2 x3 x4 x5 = .inl (y1, y2, y3, y4, y5) → J E G 5 mX11_asks Q 36 [(0, rf E 0), (1, .int y1), (2, .int y2), (3, .int y3), (4, .int y4), (5, .int y5)] [] μ := fun y1 y2 y3 y4 y5  h => k1 (y1, y2, y3, y4, y5) h
  have kx : ∀ (y1 : Int32) (y2 : Int32) (y3 : Int32) (y4 : Int32) , bd_X11_asks_36  μ x1 x2 x3 x4 x5 = .inr (y1, y2, y3, y4) → J E G 5 mX11_asks Q 97 [(0, rf E 0), (1, .int y1), (2, .int y2), (3, .int y3), (4, .int y4)] [] μ := fun y1 y2 y3 y4  h => k2 (y1, y2, y3, y4) h
  clear k1 k2
  refine J_iload (dk okX11_asks 21 rfl) 5 rfl ?_
  refine J_bipush (v := 18) (dk okX11_asks 22 rfl) (by decide) ?_
  refine J_icmp_gt (tgt := 97) (dk okX11_asks 23 rfl) (by decide) (fun h1 => ?_) (fun h1 => ?_)
  · exact J_sub [0, 1, 2, 3, 4] rfl (kx x1 x2 x3 x4 (by unfold bd_X11_asks_36; first | (simp only [if_pos h1]; done) | (simp only [if_pos h1]; rfl) | rfl))
  · have t := t h1
    refine J_iload (dk okX11_asks 24 rfl) 4 rfl ?_
    refine J_iload (dk okX11_asks 25 rfl) 5 rfl ?_
    refine J_callSi (As := [.int x4, .int x5]) (dk okX11_asks 26 rfl) skX2_mayBe lkX11_355 rfl rfl (Nat.le_of_ble_eq_true rfl) (by decide) (con_X2_mayBe  ⟨_, rfl, ?_⟩)
    have K6 : J E G 5 mX11_asks Q 91 [(0, rf E 0), (1, .int x1), (2, .int (if (v_X2_mayBe x4 x5) = 0 then x2 else (if x2 = (-2) then ((20 * x4) + x5) else (if x3 ≤ (v_X2_leftAtMost 1 x1 x4 x5 μ) then x2 else ((20 * x4) + x5) : Int32) : Int32) : Int32)), (3, .int (if (v_X2_mayBe x4 x5) = 0 then x3 else (if x2 = (-2) then (v_X2_leftAtMost 1 x1 x4 x5 μ) else (if x3 ≤ (v_X2_leftAtMost 1 x1 x4 x5 μ) then x3 else (v_X2_leftAtMost 1 x1 x4 x5 μ) : Int32) : Int32) : Int32)), (4, .int x4), (5, .int x5)] [] μ := by
      refine J_iinc (v := (x5 + 1)) (ls' := [(5, _), (0, _), (1, _), (2, _), (3, _), (4, _)]) (dk okX11_asks 49 rfl) 5 rfl rfl (by decide) rfl ?_
      refine J_goto (tgt := 36) (dk okX11_asks 50 rfl) (by decide) ?_
      exact J_sub [1, 2, 3, 4, 5, 0] rfl (kb x1 (if (v_X2_mayBe x4 x5) = 0 then x2 else (if x2 = (-2) then ((20 * x4) + x5) else (if x3 ≤ (v_X2_leftAtMost 1 x1 x4 x5 μ) then x2 else ((20 * x4) + x5) : Int32) : Int32) : Int32) (if (v_X2_mayBe x4 x5) = 0 then x3 else (if x2 = (-2) then (v_X2_leftAtMost 1 x1 x4 x5 μ) else (if x3 ≤ (v_X2_leftAtMost 1 x1 x4 x5 μ) then x3 else (v_X2_leftAtMost 1 x1 x4 x5 μ) : Int32) : Int32) : Int32) x4 (x5 + 1) (by unfold bd_X11_asks_36; first | (simp only [if_neg h1]; done) | (simp only [if_neg h1]; rfl) | rfl))
    refine J_if_eq (tgt := 91) (dk okX11_asks 27 rfl) (by decide) (fun h2 => ?_) (fun h2 => ?_)
    · refine J_sub (ls' := [(0, _), (1, _), (2, _), (3, _), (4, _), (5, _)]) [0, 1, 2, 3, 4, 5] rfl ?_
      (try simp only [if_pos h2] at K6 ⊢); exact K6
    · have t := t h2
      refine J_aload_n (dk okX11_asks 28 rfl) 0 rfl rfl ?_
      refine J_getR (dk okX11_asks 29 rfl) kfX11_12 ds_0 rfl ?_
      refine J_iload_n (dk okX11_asks 30 rfl) 1 rfl rfl ?_
      refine J_iload (dk okX11_asks 31 rfl) 4 rfl ?_
      refine J_iload (dk okX11_asks 32 rfl) 5 rfl ?_
      have s3 := t
      refine J_callSi (As := [rf E 1, .int x1, .int x4, .int x5]) (dk okX11_asks 33 rfl) skX2_leftAtMost lkX11_365 rfl rfl (Nat.le_of_ble_eq_true rfl) (by decide) (con_X2_leftAtMost FloorAt_1 s3 ⟨_, rfl, ?_⟩)
      refine J_istore (ls' := [(6, _), (0, _), (1, _), (2, _), (3, _), (4, _), (5, _)]) (dk okX11_asks 34 rfl) (by decide) rfl ?_
      refine J_iload_n (dk okX11_asks 35 rfl) 3 rfl rfl ?_
      refine J_bipush (v := (-2)) (dk okX11_asks 36 rfl) (by decide) ?_
      refine J_icmp_eq (tgt := 79) (dk okX11_asks 37 rfl) (by decide) (fun h4 => ?_) (fun h4 => ?_)
      · refine J_bipush (v := 20) (dk okX11_asks 41 rfl) (by decide) ?_
        refine J_iload (dk okX11_asks 42 rfl) 5 rfl ?_
        refine J_imul (dk okX11_asks 43 rfl) ?_
        refine J_iload (dk okX11_asks 44 rfl) 6 rfl ?_
        refine J_iadd (dk okX11_asks 45 rfl) ?_
        refine J_istore_n (ls' := [(2, _), (6, _), (0, _), (1, _), (3, _), (4, _), (5, _)]) (dk okX11_asks 46 rfl) rfl (by decide) rfl ?_
        refine J_iload (dk okX11_asks 47 rfl) 1 rfl ?_
        refine J_istore_n (ls' := [(3, _), (2, _), (6, _), (0, _), (1, _), (4, _), (5, _)]) (dk okX11_asks 48 rfl) rfl (by decide) rfl ?_
        refine J_sub (ls' := [(0, _), (1, _), (2, _), (3, _), (4, _), (5, _)]) [3, 4, 1, 0, 5, 6] rfl ?_
        (try simp only [if_neg h2, if_pos h4] at K6 ⊢); exact K6
      · refine J_iload (dk okX11_asks 38 rfl) 0 rfl ?_
        refine J_iload_n (dk okX11_asks 39 rfl) 4 rfl rfl ?_
        refine J_icmp_ge (tgt := 91) (dk okX11_asks 40 rfl) (by decide) (fun h5 => ?_) (fun h5 => ?_)
        · refine J_sub (ls' := [(0, _), (1, _), (2, _), (3, _), (4, _), (5, _)]) [1, 2, 3, 4, 5, 6] rfl ?_
          (try simp only [if_neg h2, if_neg h4, if_pos h5] at K6 ⊢); exact K6
        · refine J_bipush (v := 20) (dk okX11_asks 41 rfl) (by decide) ?_
          refine J_iload (dk okX11_asks 42 rfl) 5 rfl ?_
          refine J_imul (dk okX11_asks 43 rfl) ?_
          refine J_iload (dk okX11_asks 44 rfl) 6 rfl ?_
          refine J_iadd (dk okX11_asks 45 rfl) ?_
          refine J_istore_n (ls' := [(2, _), (6, _), (0, _), (1, _), (3, _), (4, _), (5, _)]) (dk okX11_asks 46 rfl) rfl (by decide) rfl ?_
          refine J_iload (dk okX11_asks 47 rfl) 1 rfl ?_
          refine J_istore_n (ls' := [(3, _), (2, _), (6, _), (0, _), (1, _), (4, _), (5, _)]) (dk okX11_asks 48 rfl) rfl (by decide) rfl ?_
          refine J_sub (ls' := [(0, _), (1, _), (2, _), (3, _), (4, _), (5, _)]) [3, 4, 1, 0, 5, 6] rfl ?_
          (try simp only [if_neg h2, if_neg h4, if_neg h5] at K6 ⊢); exact K6
noncomputable def bd_X11_asks_27  (μ : Mm) (x1 : Int32) (x2 : Int32) (x3 : Int32) (x4 : Int32) : (Int32 × Int32 × Int32 × Int32) ⊕ (Int32 × Int32) := (if 5 ≤ x4 then .inr (x2, x3) else (let r3 : Int32 × Int32 × Int32 × Int32 := whl (fun s : Int32 × Int32 × Int32 × Int32 × Int32 => bd_X11_asks_36  μ s.1 s.2.1 s.2.2.1 s.2.2.2.1 s.2.2.2.2) (fun _ : Int32 × Int32 × Int32 × Int32 × Int32 => (0, 0, 0, 0)) FU (x1, x2, x3, x4, 0); .inl ((r3.1), (r3.2.1), (r3.2.2.1), ((r3.2.2.2) + 1))))
def sd_X11_asks_27   (μ : Mm) (x1 : Int32) (x2 : Int32) (x3 : Int32) (x4 : Int32) : Prop := (¬ (5 ≤ x4) → whP (fun s : Int32 × Int32 × Int32 × Int32 × Int32 => bd_X11_asks_36  μ s.1 s.2.1 s.2.2.1 s.2.2.2.1 s.2.2.2.2) (fun s : Int32 × Int32 × Int32 × Int32 × Int32 => sd_X11_asks_36   μ s.1 s.2.1 s.2.2.1 s.2.2.2.1 s.2.2.2.2) FU (x1, x2, x3, x4, 0))
set_option maxRecDepth 20000 in
set_option maxHeartbeats 4000000 in
theorem lw_X11_asks_27 {E : Ex} {G : Gx} {Q : Option Value → Mm → Prop} {x1 : Int32} {x2 : Int32} {x3 : Int32} {x4 : Int32} {μ : Mm}  (p : whP (fun s : Int32 × Int32 × Int32 × Int32 => bd_X11_asks_27  μ s.1 s.2.1 s.2.2.1 s.2.2.2) (fun s : Int32 × Int32 × Int32 × Int32 => sd_X11_asks_27   μ s.1 s.2.1 s.2.2.1 s.2.2.2) FU (x1, x2, x3, x4)) (k : ∀ r : Int32 × Int32, r = whl (fun s : Int32 × Int32 × Int32 × Int32 => bd_X11_asks_27  μ s.1 s.2.1 s.2.2.1 s.2.2.2) (fun _ : Int32 × Int32 × Int32 × Int32 => (0, 0)) FU (x1, x2, x3, x4) → J E G 5 mX11_asks Q 103 [(0, rf E 0), (2, .int (r.1)), (3, .int (r.2))] [] μ) : J E G 5 mX11_asks Q 27 [(0, rf E 0), (1, .int x1), (2, .int x2), (3, .int x3), (4, .int x4)] [] μ := by
  refine J_whl (f := (fun s : Int32 × Int32 × Int32 × Int32 => bd_X11_asks_27  μ s.1 s.2.1 s.2.2.1 s.2.2.2)) (dd := (fun _ : Int32 × Int32 × Int32 × Int32 => (0, 0))) (sd := (fun s : Int32 × Int32 × Int32 × Int32 => sd_X11_asks_27   μ s.1 s.2.1 s.2.2.1 s.2.2.2)) (P := fun s : Int32 × Int32 × Int32 × Int32 => J E G 5 mX11_asks Q 27 [(0, rf E 0), (1, .int (s.1)), (2, .int (s.2.1)), (3, .int (s.2.2.1)), (4, .int (s.2.2.2))] [] (μ)) (R := fun r : Int32 × Int32 => J E G 5 mX11_asks Q 103 [(0, rf E 0), (2, .int (r.1)), (3, .int (r.2))] [] μ) ?_ FU (x1, x2, x3, x4) p (k _ rfl)
  clear p k
  rintro ⟨x1, x2, x3, x4⟩ t k1 k2
  dsimp only [sd_X11_asks_27] at t
  have kb : ∀ (y1 : Int32) (y2 : Int32) (y3 : Int32) (y4 : Int32) , bd_X11_asks_27  μ x1 x2 x3 x4 = .inl (y1, y2, y3, y4) → J E G 5 mX11_asks Q 27 [(0, rf E 0), (1, .int y1), (2, .int y2), (3, .int y3), (4, .int y4)] [] μ := fun y1 y2 y3 y4  h => k1 (y1, y2, y3, y4) h
  have kx : ∀ (y2 : Int32) (y3 : Int32) , bd_X11_asks_27  μ x1 x2 x3 x4 = .inr (y2, y3) → J E G 5 mX11_asks Q 103 [(0, rf E 0), (2, .int y2), (3, .int y3)] [] μ := fun y2 y3  h => k2 (y2, y3) h
  clear k1 k2
  refine J_iload (dk okX11_asks 16 rfl) 4 rfl ?_
  refine J_iconst (v := 5) (dk okX11_asks 17 rfl) (by decide) ?_
  refine J_icmp_ge (tgt := 103) (dk okX11_asks 18 rfl) (by decide) (fun h1 => ?_) (fun h1 => ?_)
  · exact J_sub [0, 2, 3] rfl (kx x2 x3 (by unfold bd_X11_asks_27; first | (simp only [if_pos h1]; done) | (simp only [if_pos h1]; rfl) | rfl))
  · have t := t h1
    refine J_iconst (v := 0) (dk okX11_asks 19 rfl) (by decide) ?_
    refine J_istore (ls' := [(5, _), (0, _), (1, _), (2, _), (3, _), (4, _)]) (dk okX11_asks 20 rfl) (by decide) rfl ?_
    have s2 := t
    refine J_sub (ls' := [(0, _), (1, _), (2, _), (3, _), (4, _), (5, _)]) [1, 2, 3, 4, 5, 0] rfl ?_
    refine lw_X11_asks_36  s2 (fun r3 er3 => ?_)
    refine J_iinc (v := ((r3.2.2.2) + 1)) (ls' := [(4, _), (0, _), (1, _), (2, _), (3, _)]) (dk okX11_asks 51 rfl) 4 rfl rfl (by decide) rfl ?_
    refine J_goto (tgt := 27) (dk okX11_asks 52 rfl) (by decide) ?_
    exact J_sub [1, 2, 3, 4, 0] rfl (kb (r3.1) (r3.2.1) (r3.2.2.1) ((r3.2.2.2) + 1) (by subst er3; unfold bd_X11_asks_27; first | (simp only [if_neg h1]; done) | (simp only [if_neg h1]; rfl) | rfl))
/-- VotingFloor.asks()I -/
noncomputable def v_X11_asks  (μ : Mm) : Int32 := (if (v_X2_fitting 1 μ) = 0 then (-2) else (let r4 : Int32 × Int32 := whl (fun s : Int32 × Int32 × Int32 × Int32 => bd_X11_asks_27  μ s.1 s.2.1 s.2.2.1 s.2.2.2) (fun _ : Int32 × Int32 × Int32 × Int32 => (0, 0)) FU ((v_X2_fitting 1 μ), (-2), 0, 0); (r4.1)))
noncomputable def e_X11_asks  (μ : Mm) : Mm := (if (v_X2_fitting 1 μ) = 0 then μ else (let r4 : Int32 × Int32 := whl (fun s : Int32 × Int32 × Int32 × Int32 => bd_X11_asks_27  μ s.1 s.2.1 s.2.2.1 s.2.2.2) (fun _ : Int32 × Int32 × Int32 × Int32 => (0, 0)) FU ((v_X2_fitting 1 μ), (-2), 0, 0); (let μ5 : Mm := (e_X10_begin  μ); (let μ7 : Mm := (e_X10_add (Int32.toInt64 (r4.2)) μ5); μ7))))
def p_X11_asks   (μ : Mm) : Prop := (p_X2_fitting 1 μ) ∧ (¬ ((v_X2_fitting 1 μ) = 0) → (whP (fun s : Int32 × Int32 × Int32 × Int32 => bd_X11_asks_27  μ s.1 s.2.1 s.2.2.1 s.2.2.2) (fun s : Int32 × Int32 × Int32 × Int32 => sd_X11_asks_27   μ s.1 s.2.1 s.2.2.1 s.2.2.2) FU ((v_X2_fitting 1 μ), (-2), 0, 0)) ∧ (∀ r4 : Int32 × Int32, r4 = whl (fun s : Int32 × Int32 × Int32 × Int32 => bd_X11_asks_27  μ s.1 s.2.1 s.2.2.1 s.2.2.2) (fun _ : Int32 × Int32 × Int32 × Int32 => (0, 0)) FU ((v_X2_fitting 1 μ), (-2), 0, 0) → (∀ μ5 : Mm, μ5 = (e_X10_begin  μ) → p_X10_add (Int32.toInt64 (r4.2)) μ5)))
set_option maxRecDepth 20000 in
set_option maxHeartbeats 4000000 in
theorem con_X11_asks {E : Ex} {Q : Option Value → Mm → Prop} {μ : Mm} (t : p_X11_asks   μ) (k : Q (some (.int (v_X11_asks  μ))) (e_X11_asks  μ)) : Con E 5 mX11_asks [rf E 0] μ Q := by
  refine Con_J (by decide +kernel) (Nat.le_of_ble_eq_true rfl) (fun G => ?_)
  unfold v_X11_asks e_X11_asks at k
  unfold p_X11_asks at t
  refine J_sub (ls' := [(0, rf E 0)]) [0] rfl ?_
  refine J_aload_n (dk okX11_asks 0 rfl) 0 rfl rfl ?_
  refine J_getR (dk okX11_asks 1 rfl) kfX11_74 ds_0 rfl ?_
  refine J_aload_n (dk okX11_asks 2 rfl) 0 rfl rfl ?_
  refine J_getR (dk okX11_asks 3 rfl) kfX11_12 ds_0 rfl ?_
  obtain ⟨s1, t⟩ := t
  refine J_callVi (As := [rf E 1]) (dk okX11_asks 4 rfl) ds_42 rfl vkX2_fitting lkX11_361 rfl rfl (Nat.le_of_ble_eq_true rfl) (by decide) (con_X2_fitting FloorAt_1 s1 ⟨_, rfl, ?_⟩)
  refine J_istore_n (ls' := [(1, _), (0, _)]) (dk okX11_asks 5 rfl) rfl (by decide) rfl ?_
  refine J_iload_n (dk okX11_asks 6 rfl) 0 rfl rfl ?_
  refine J_if_ne (tgt := 19) (dk okX11_asks 7 rfl) (by decide) (fun h2 => ?_) (fun h2 => ?_)
  · have t := t h2
    refine J_bipush (v := (-2)) (dk okX11_asks 10 rfl) (by decide) ?_
    refine J_istore_n (ls' := [(2, _), (1, _), (0, _)]) (dk okX11_asks 11 rfl) rfl (by decide) rfl ?_
    refine J_iconst (v := 0) (dk okX11_asks 12 rfl) (by decide) ?_
    refine J_istore_n (ls' := [(3, _), (2, _), (1, _), (0, _)]) (dk okX11_asks 13 rfl) rfl (by decide) rfl ?_
    refine J_iconst (v := 0) (dk okX11_asks 14 rfl) (by decide) ?_
    refine J_istore (ls' := [(4, _), (3, _), (2, _), (1, _), (0, _)]) (dk okX11_asks 15 rfl) (by decide) rfl ?_
    obtain ⟨s3, t⟩ := t
    refine J_sub (ls' := [(0, _), (1, _), (2, _), (3, _), (4, _)]) [4, 3, 2, 1, 0] rfl ?_
    refine lw_X11_asks_27  s3 (fun r4 er4 => ?_)
    have t := t r4 er4
    refine J_aload_n (dk okX11_asks 53 rfl) 0 rfl rfl ?_
    refine J_getR (dk okX11_asks 54 rfl) kfX11_39 ds_0 rfl ?_
    refine J_callVv (As := []) (dk okX11_asks 55 rfl) ds_27 rfl vkX10_begin lkX11_196 rfl rfl (Nat.le_of_ble_eq_true rfl) (by decide) (con_X10_begin  ⟨rfl, ?_⟩)
    refine J_nm (fun μ5 eμ5 => ?_)
    have t := t μ5 eμ5
    refine J_aload_n (dk okX11_asks 56 rfl) 0 rfl rfl ?_
    refine J_getR (dk okX11_asks 57 rfl) kfX11_39 ds_0 rfl ?_
    refine J_iload_n (dk okX11_asks 58 rfl) 2 rfl rfl ?_
    refine J_i2l (dk okX11_asks 59 rfl) ?_
    have s6 := t
    refine J_callVv (As := [.long (Int32.toInt64 (r4.2))]) (dk okX11_asks 60 rfl) ds_27 rfl vkX10_add lkX11_199 rfl rfl (Nat.le_of_ble_eq_true rfl) (by decide) (con_X10_add s6 ⟨rfl, ?_⟩)
    refine J_nm (fun μ7 eμ7 => ?_)
    refine J_iload_n (dk okX11_asks 61 rfl) 1 rfl rfl ?_
    subst eμ7 eμ5 er4
    (try simp only [if_neg h2] at k ⊢)
    exact J_iret (dk okX11_asks 62 rfl) rfl k
  · refine J_bipush (v := (-2)) (dk okX11_asks 8 rfl) (by decide) ?_
    (try simp only [if_pos h2] at k ⊢)
    exact J_iret (dk okX11_asks 9 rfl) rfl k
noncomputable def bd_X11_canvass_23  (x1 : Int32) (μ : Mm) : (Int32 × Mm) ⊕ (Mm) := (if (μ.1 1 0) ≤ x1 then .inr μ else (let μ5 : Mm := (upI μ 34 (Int32.toNatClampNeg x1) (((-2) * (v_X1_load 1 x1 μ)) * (μ.1 3 (Int32.toNatClampNeg x1)))); .inl ((x1 + 1), μ5)))
def sd_X11_canvass_23   (x1 : Int32) (μ : Mm) : Prop := (¬ ((μ.1 1 0) ≤ x1) → (p_X1_load 1 x1 μ) ∧ (vp_in x1 7) ∧ vp_in x1 7)
set_option maxRecDepth 20000 in
set_option maxHeartbeats 4000000 in
theorem lw_X11_canvass_23 {E : Ex} {G : Gx} {Q : Option Value → Mm → Prop} {x1 : Int32} {μ : Mm}  (p : whP (fun s : Int32 × Mm => bd_X11_canvass_23  s.1 s.2) (fun s : Int32 × Mm => sd_X11_canvass_23   s.1 s.2) FU (x1, μ)) (k : ∀ r : Mm, r = whl (fun s : Int32 × Mm => bd_X11_canvass_23  s.1 s.2) (fun s : Int32 × Mm => s.2) FU (x1, μ) → J E G 5 mX11_canvass Q 70 [(0, rf E 0)] [] r) : J E G 5 mX11_canvass Q 23 [(0, rf E 0), (1, .int x1)] [] μ := by
  refine J_whl (f := (fun s : Int32 × Mm => bd_X11_canvass_23  s.1 s.2)) (dd := (fun s : Int32 × Mm => s.2)) (sd := (fun s : Int32 × Mm => sd_X11_canvass_23   s.1 s.2)) (P := fun s : Int32 × Mm => J E G 5 mX11_canvass Q 23 [(0, rf E 0), (1, .int (s.1))] [] (s.2)) (R := fun r : Mm => J E G 5 mX11_canvass Q 70 [(0, rf E 0)] [] r) ?_ FU (x1, μ) p (k _ rfl)
  clear p k
  rintro ⟨x1, μ⟩ t k1 k2
  dsimp only [sd_X11_canvass_23] at t
  have kb : ∀ (y1 : Int32) (μ9 : Mm), bd_X11_canvass_23  x1 μ = .inl (y1, μ9) → J E G 5 mX11_canvass Q 23 [(0, rf E 0), (1, .int y1)] [] μ9 := fun y1 μ9 h => k1 (y1, μ9) h
  have kx : ∀  (μ9 : Mm), bd_X11_canvass_23  x1 μ = .inr μ9 → J E G 5 mX11_canvass Q 70 [(0, rf E 0)] [] μ9 := fun  μ9 h => k2 μ9 h
  clear k1 k2
  refine J_iload_n (dk okX11_canvass 11 rfl) 1 rfl rfl ?_
  refine J_aload_n (dk okX11_canvass 12 rfl) 0 rfl rfl ?_
  refine J_getR (dk okX11_canvass 13 rfl) kfX11_12 ds_0 rfl ?_
  refine J_getI (dk okX11_canvass 14 rfl) kfX11_106 ds_1 rfl ?_
  refine J_icmp_ge (tgt := 70) (dk okX11_canvass 15 rfl) (by decide) (fun h1 => ?_) (fun h1 => ?_)
  · exact J_sub [0] rfl (kx μ (by unfold bd_X11_canvass_23; first | (simp only [if_pos h1]; done) | (simp only [if_pos h1]; rfl) | rfl))
  · have t := t h1
    refine J_aload_n (dk okX11_canvass 16 rfl) 0 rfl rfl ?_
    refine J_getR (dk okX11_canvass 17 rfl) kfX11_53 ds_0 rfl ?_
    refine J_getR (dk okX11_canvass 18 rfl) kfX11_291 ds_33 rfl ?_
    refine J_iload_n (dk okX11_canvass 19 rfl) 1 rfl rfl ?_
    refine J_bipush (v := (-2)) (dk okX11_canvass 20 rfl) (by decide) ?_
    refine J_aload_n (dk okX11_canvass 21 rfl) 0 rfl rfl ?_
    refine J_getR (dk okX11_canvass 22 rfl) kfX11_12 ds_0 rfl ?_
    refine J_iload_n (dk okX11_canvass 23 rfl) 1 rfl rfl ?_
    obtain ⟨s2, t⟩ := t
    refine J_callVi (As := [.int x1]) (dk okX11_canvass 24 rfl) ds_1 rfl vkX1_load lkX11_285 rfl rfl (Nat.le_of_ble_eq_true rfl) (by decide) (con_X1_load FloorAt_1 s2 ⟨_, rfl, ?_⟩)
    refine J_imul (dk okX11_canvass 25 rfl) ?_
    refine J_aload_n (dk okX11_canvass 26 rfl) 0 rfl rfl ?_
    refine J_getR (dk okX11_canvass 27 rfl) kfX11_12 ds_0 rfl ?_
    refine J_getR (dk okX11_canvass 28 rfl) kfX11_151 ds_1 rfl ?_
    refine J_iload_n (dk okX11_canvass 29 rfl) 1 rfl rfl ?_
    obtain ⟨s3, t⟩ := t
    refine J_iald (dk okX11_canvass 30 rfl) ds_3 s3 ?_
    refine J_imul (dk okX11_canvass 31 rfl) ?_
    have s4 := t
    refine J_iast (dk okX11_canvass 32 rfl) ds_34 s4 ?_
    refine J_nm (fun μ5 eμ5 => ?_)
    refine J_iinc (v := (x1 + 1)) (ls' := [(1, _), (0, _)]) (dk okX11_canvass 33 rfl) 1 rfl rfl (by decide) rfl ?_
    refine J_goto (tgt := 23) (dk okX11_canvass 34 rfl) (by decide) ?_
    exact J_sub [1, 0] rfl (kb (x1 + 1) μ5 (by subst eμ5; unfold bd_X11_canvass_23; first | (simp only [if_neg h1]; done) | (simp only [if_neg h1]; rfl) | rfl))
/-- VotingFloor.canvass()I -/
noncomputable def v_X11_canvass  (μ : Mm) : Int32 := (let μ2 : Mm := (e_X8_start (v_X1_present 1 μ) (v_X1_care 1 μ) μ); (let r4 : Mm := whl (fun s : Int32 × Mm => bd_X11_canvass_23  s.1 s.2) (fun s : Int32 × Mm => s.2) FU (0, μ2); (v_X11_tellFewest 0 r4)))
noncomputable def e_X11_canvass  (μ : Mm) : Mm := (let μ2 : Mm := (e_X8_start (v_X1_present 1 μ) (v_X1_care 1 μ) μ); (let r4 : Mm := whl (fun s : Int32 × Mm => bd_X11_canvass_23  s.1 s.2) (fun s : Int32 × Mm => s.2) FU (0, μ2); (let μ6 : Mm := (e_X11_tellFewest 0 r4); μ6)))
def p_X11_canvass   (μ : Mm) : Prop := (p_X1_care 1 μ) ∧ (∀ μ2 : Mm, μ2 = (e_X8_start (v_X1_present 1 μ) (v_X1_care 1 μ) μ) → (whP (fun s : Int32 × Mm => bd_X11_canvass_23  s.1 s.2) (fun s : Int32 × Mm => sd_X11_canvass_23   s.1 s.2) FU (0, μ2)) ∧ (∀ r4 : Mm, r4 = whl (fun s : Int32 × Mm => bd_X11_canvass_23  s.1 s.2) (fun s : Int32 × Mm => s.2) FU (0, μ2) → p_X11_tellFewest 0 r4))
set_option maxRecDepth 20000 in
set_option maxHeartbeats 4000000 in
theorem con_X11_canvass {E : Ex} {Q : Option Value → Mm → Prop} {μ : Mm} (t : p_X11_canvass   μ) (k : Q (some (.int (v_X11_canvass  μ))) (e_X11_canvass  μ)) : Con E 5 mX11_canvass [rf E 0] μ Q := by
  refine Con_J (by decide +kernel) (Nat.le_of_ble_eq_true rfl) (fun G => ?_)
  unfold v_X11_canvass e_X11_canvass at k
  unfold p_X11_canvass at t
  refine J_sub (ls' := [(0, rf E 0)]) [0] rfl ?_
  refine J_aload_n (dk okX11_canvass 0 rfl) 0 rfl rfl ?_
  refine J_getR (dk okX11_canvass 1 rfl) kfX11_53 ds_0 rfl ?_
  refine J_aload_n (dk okX11_canvass 2 rfl) 0 rfl rfl ?_
  refine J_getR (dk okX11_canvass 3 rfl) kfX11_12 ds_0 rfl ?_
  refine J_callVi (As := []) (dk okX11_canvass 4 rfl) ds_1 rfl vkX1_present lkX11_271 rfl rfl (Nat.le_of_ble_eq_true rfl) (by decide) (con_X1_present FloorAt_1 ⟨_, rfl, ?_⟩)
  refine J_aload_n (dk okX11_canvass 5 rfl) 0 rfl rfl ?_
  refine J_getR (dk okX11_canvass 6 rfl) kfX11_12 ds_0 rfl ?_
  obtain ⟨s1, t⟩ := t
  refine J_callVi (As := []) (dk okX11_canvass 7 rfl) ds_1 rfl vkX1_care lkX11_305 rfl rfl (Nat.le_of_ble_eq_true rfl) (by decide) (con_X1_care FloorAt_1 s1 ⟨_, rfl, ?_⟩)
  refine J_callVv (As := [.int (v_X1_present 1 μ), .int (v_X1_care 1 μ)]) (dk okX11_canvass 8 rfl) ds_33 rfl vkX8_start lkX11_288 rfl rfl (Nat.le_of_ble_eq_true rfl) (by decide) (con_X8_start  ⟨rfl, ?_⟩)
  refine J_nm (fun μ2 eμ2 => ?_)
  have t := t μ2 eμ2
  refine J_iconst (v := 0) (dk okX11_canvass 9 rfl) (by decide) ?_
  refine J_istore_n (ls' := [(1, _), (0, _)]) (dk okX11_canvass 10 rfl) rfl (by decide) rfl ?_
  obtain ⟨s3, t⟩ := t
  refine J_sub (ls' := [(0, _), (1, _)]) [1, 0] rfl ?_
  refine lw_X11_canvass_23  s3 (fun r4 er4 => ?_)
  have t := t r4 er4
  refine J_aload_n (dk okX11_canvass 35 rfl) 0 rfl rfl ?_
  refine J_iconst (v := 0) (dk okX11_canvass 36 rfl) (by decide) ?_
  have s5 := t
  refine J_callVi (As := [.int 0]) (dk okX11_canvass 37 rfl) ds_0 rfl vkX11_tellFewest lkX11_294 rfl rfl (Nat.le_of_ble_eq_true rfl) (by decide) (con_X11_tellFewest s5 ⟨_, rfl, ?_⟩)
  refine J_nm (fun μ6 eμ6 => ?_)
  subst eμ6 er4 eμ2
  exact J_iret (dk okX11_canvass 38 rfl) rfl k
noncomputable def bd_X11_clears_23  (x1 : Int32) (μ : Mm) : (Int32 × Mm) ⊕ (Mm) := (if (μ.1 1 0) ≤ x1 then .inr μ else (let μ5 : Mm := (upI μ 34 (Int32.toNatClampNeg x1) ((-(v_X1_load 1 x1 μ)) * (μ.1 4 (Int32.toNatClampNeg x1)))); .inl ((x1 + 1), μ5)))
def sd_X11_clears_23   (x1 : Int32) (μ : Mm) : Prop := (¬ ((μ.1 1 0) ≤ x1) → (p_X1_load 1 x1 μ) ∧ (vp_in x1 7) ∧ vp_in x1 7)
set_option maxRecDepth 20000 in
set_option maxHeartbeats 4000000 in
theorem lw_X11_clears_23 {E : Ex} {G : Gx} {Q : Option Value → Mm → Prop} {x1 : Int32} {μ : Mm}  (p : whP (fun s : Int32 × Mm => bd_X11_clears_23  s.1 s.2) (fun s : Int32 × Mm => sd_X11_clears_23   s.1 s.2) FU (x1, μ)) (k : ∀ r : Mm, r = whl (fun s : Int32 × Mm => bd_X11_clears_23  s.1 s.2) (fun s : Int32 × Mm => s.2) FU (x1, μ) → J E G 5 mX11_clears Q 68 [(0, rf E 0)] [] r) : J E G 5 mX11_clears Q 23 [(0, rf E 0), (1, .int x1)] [] μ := by
  refine J_whl (f := (fun s : Int32 × Mm => bd_X11_clears_23  s.1 s.2)) (dd := (fun s : Int32 × Mm => s.2)) (sd := (fun s : Int32 × Mm => sd_X11_clears_23   s.1 s.2)) (P := fun s : Int32 × Mm => J E G 5 mX11_clears Q 23 [(0, rf E 0), (1, .int (s.1))] [] (s.2)) (R := fun r : Mm => J E G 5 mX11_clears Q 68 [(0, rf E 0)] [] r) ?_ FU (x1, μ) p (k _ rfl)
  clear p k
  rintro ⟨x1, μ⟩ t k1 k2
  dsimp only [sd_X11_clears_23] at t
  have kb : ∀ (y1 : Int32) (μ9 : Mm), bd_X11_clears_23  x1 μ = .inl (y1, μ9) → J E G 5 mX11_clears Q 23 [(0, rf E 0), (1, .int y1)] [] μ9 := fun y1 μ9 h => k1 (y1, μ9) h
  have kx : ∀  (μ9 : Mm), bd_X11_clears_23  x1 μ = .inr μ9 → J E G 5 mX11_clears Q 68 [(0, rf E 0)] [] μ9 := fun  μ9 h => k2 μ9 h
  clear k1 k2
  refine J_iload_n (dk okX11_clears 11 rfl) 1 rfl rfl ?_
  refine J_aload_n (dk okX11_clears 12 rfl) 0 rfl rfl ?_
  refine J_getR (dk okX11_clears 13 rfl) kfX11_12 ds_0 rfl ?_
  refine J_getI (dk okX11_clears 14 rfl) kfX11_106 ds_1 rfl ?_
  refine J_icmp_ge (tgt := 68) (dk okX11_clears 15 rfl) (by decide) (fun h1 => ?_) (fun h1 => ?_)
  · exact J_sub [0] rfl (kx μ (by unfold bd_X11_clears_23; first | (simp only [if_pos h1]; done) | (simp only [if_pos h1]; rfl) | rfl))
  · have t := t h1
    refine J_aload_n (dk okX11_clears 16 rfl) 0 rfl rfl ?_
    refine J_getR (dk okX11_clears 17 rfl) kfX11_53 ds_0 rfl ?_
    refine J_getR (dk okX11_clears 18 rfl) kfX11_291 ds_33 rfl ?_
    refine J_iload_n (dk okX11_clears 19 rfl) 1 rfl rfl ?_
    refine J_aload_n (dk okX11_clears 20 rfl) 0 rfl rfl ?_
    refine J_getR (dk okX11_clears 21 rfl) kfX11_12 ds_0 rfl ?_
    refine J_iload_n (dk okX11_clears 22 rfl) 1 rfl rfl ?_
    obtain ⟨s2, t⟩ := t
    refine J_callVi (As := [.int x1]) (dk okX11_clears 23 rfl) ds_1 rfl vkX1_load lkX11_285 rfl rfl (Nat.le_of_ble_eq_true rfl) (by decide) (con_X1_load FloorAt_1 s2 ⟨_, rfl, ?_⟩)
    refine J_ineg (dk okX11_clears 24 rfl) ?_
    refine J_aload_n (dk okX11_clears 25 rfl) 0 rfl rfl ?_
    refine J_getR (dk okX11_clears 26 rfl) kfX11_12 ds_0 rfl ?_
    refine J_getR (dk okX11_clears 27 rfl) kfX11_154 ds_1 rfl ?_
    refine J_iload_n (dk okX11_clears 28 rfl) 1 rfl rfl ?_
    obtain ⟨s3, t⟩ := t
    refine J_iald (dk okX11_clears 29 rfl) ds_4 s3 ?_
    refine J_imul (dk okX11_clears 30 rfl) ?_
    have s4 := t
    refine J_iast (dk okX11_clears 31 rfl) ds_34 s4 ?_
    refine J_nm (fun μ5 eμ5 => ?_)
    refine J_iinc (v := (x1 + 1)) (ls' := [(1, _), (0, _)]) (dk okX11_clears 32 rfl) 1 rfl rfl (by decide) rfl ?_
    refine J_goto (tgt := 23) (dk okX11_clears 33 rfl) (by decide) ?_
    exact J_sub [1, 0] rfl (kb (x1 + 1) μ5 (by subst eμ5; unfold bd_X11_clears_23; first | (simp only [if_neg h1]; done) | (simp only [if_neg h1]; rfl) | rfl))
/-- VotingFloor.clears()I -/
noncomputable def v_X11_clears  (μ : Mm) : Int32 := (let μ2 : Mm := (e_X8_start (v_X1_present 1 μ) (v_X1_moment 1 μ) μ); (let r4 : Mm := whl (fun s : Int32 × Mm => bd_X11_clears_23  s.1 s.2) (fun s : Int32 × Mm => s.2) FU (0, μ2); (v_X11_tellFewest 1 r4)))
noncomputable def e_X11_clears  (μ : Mm) : Mm := (let μ2 : Mm := (e_X8_start (v_X1_present 1 μ) (v_X1_moment 1 μ) μ); (let r4 : Mm := whl (fun s : Int32 × Mm => bd_X11_clears_23  s.1 s.2) (fun s : Int32 × Mm => s.2) FU (0, μ2); (let μ6 : Mm := (e_X11_tellFewest 1 r4); μ6)))
def p_X11_clears   (μ : Mm) : Prop := (p_X1_moment 1 μ) ∧ (∀ μ2 : Mm, μ2 = (e_X8_start (v_X1_present 1 μ) (v_X1_moment 1 μ) μ) → (whP (fun s : Int32 × Mm => bd_X11_clears_23  s.1 s.2) (fun s : Int32 × Mm => sd_X11_clears_23   s.1 s.2) FU (0, μ2)) ∧ (∀ r4 : Mm, r4 = whl (fun s : Int32 × Mm => bd_X11_clears_23  s.1 s.2) (fun s : Int32 × Mm => s.2) FU (0, μ2) → p_X11_tellFewest 1 r4))
set_option maxRecDepth 20000 in
set_option maxHeartbeats 4000000 in
theorem con_X11_clears {E : Ex} {Q : Option Value → Mm → Prop} {μ : Mm} (t : p_X11_clears   μ) (k : Q (some (.int (v_X11_clears  μ))) (e_X11_clears  μ)) : Con E 5 mX11_clears [rf E 0] μ Q := by
  refine Con_J (by decide +kernel) (Nat.le_of_ble_eq_true rfl) (fun G => ?_)
  unfold v_X11_clears e_X11_clears at k
  unfold p_X11_clears at t
  refine J_sub (ls' := [(0, rf E 0)]) [0] rfl ?_
  refine J_aload_n (dk okX11_clears 0 rfl) 0 rfl rfl ?_
  refine J_getR (dk okX11_clears 1 rfl) kfX11_53 ds_0 rfl ?_
  refine J_aload_n (dk okX11_clears 2 rfl) 0 rfl rfl ?_
  refine J_getR (dk okX11_clears 3 rfl) kfX11_12 ds_0 rfl ?_
  refine J_callVi (As := []) (dk okX11_clears 4 rfl) ds_1 rfl vkX1_present lkX11_271 rfl rfl (Nat.le_of_ble_eq_true rfl) (by decide) (con_X1_present FloorAt_1 ⟨_, rfl, ?_⟩)
  refine J_aload_n (dk okX11_clears 5 rfl) 0 rfl rfl ?_
  refine J_getR (dk okX11_clears 6 rfl) kfX11_12 ds_0 rfl ?_
  obtain ⟨s1, t⟩ := t
  refine J_callVi (As := []) (dk okX11_clears 7 rfl) ds_1 rfl vkX1_moment lkX11_163 rfl rfl (Nat.le_of_ble_eq_true rfl) (by decide) (con_X1_moment FloorAt_1 s1 ⟨_, rfl, ?_⟩)
  refine J_callVv (As := [.int (v_X1_present 1 μ), .int (v_X1_moment 1 μ)]) (dk okX11_clears 8 rfl) ds_33 rfl vkX8_start lkX11_288 rfl rfl (Nat.le_of_ble_eq_true rfl) (by decide) (con_X8_start  ⟨rfl, ?_⟩)
  refine J_nm (fun μ2 eμ2 => ?_)
  have t := t μ2 eμ2
  refine J_iconst (v := 0) (dk okX11_clears 9 rfl) (by decide) ?_
  refine J_istore_n (ls' := [(1, _), (0, _)]) (dk okX11_clears 10 rfl) rfl (by decide) rfl ?_
  obtain ⟨s3, t⟩ := t
  refine J_sub (ls' := [(0, _), (1, _)]) [1, 0] rfl ?_
  refine lw_X11_clears_23  s3 (fun r4 er4 => ?_)
  have t := t r4 er4
  refine J_aload_n (dk okX11_clears 34 rfl) 0 rfl rfl ?_
  refine J_iconst (v := 1) (dk okX11_clears 35 rfl) (by decide) ?_
  have s5 := t
  refine J_callVi (As := [.int 1]) (dk okX11_clears 36 rfl) ds_0 rfl vkX11_tellFewest lkX11_294 rfl rfl (Nat.le_of_ble_eq_true rfl) (by decide) (con_X11_tellFewest s5 ⟨_, rfl, ?_⟩)
  refine J_nm (fun μ6 eμ6 => ?_)
  subst eμ6 er4 eμ2
  exact J_iret (dk okX11_clears 37 rfl) rfl k
noncomputable def bd_X11_couldWish_24  (x1 : Int32) (x3 : Int32) (x4 : Int32) (μ : Mm) : (Int32 × Int32 × Int32 × Mm) ⊕ (Int32 × Mm) := (if x3 < x4 then .inr (1, μ) else (if 20 < x4 then .inr (1, μ) else (let μ6 : Mm := (if x4 ≤ 0 then μ else ((e_X1_pass 8 15 μ)) : Mm); (if (v_X6_agree x4 8 μ6) = 0 then .inr (0, μ6) else (let μ11 : Mm := (upI μ6 46 (Int32.toNatClampNeg x4) (v_X1_placeOf 8 x1 μ6)); .inl (x1, x3, (x4 + 1), μ11))))))
def sd_X11_couldWish_24   (x1 : Int32) (x3 : Int32) (x4 : Int32) (μ : Mm) : Prop := (¬ (x3 < x4) → (¬ (20 < x4) → ((¬ (x4 ≤ 0) → p_X1_pass 8 15 μ)) ∧ (∀ μ6 : Mm, μ6 = (if x4 ≤ 0 then μ else ((e_X1_pass 8 15 μ)) : Mm) → (p_X6_agree x4 8 μ6) ∧ (¬ ((v_X6_agree x4 8 μ6) = 0) → (p_X1_placeOf 8 x1 μ6) ∧ vp_in x4 21))))
set_option maxRecDepth 20000 in
set_option maxHeartbeats 4000000 in
theorem lw_X11_couldWish_24 {E : Ex} {G : Gx} {Q : Option Value → Mm → Prop} {x1 : Int32} {x3 : Int32} {x4 : Int32} {μ : Mm}  (p : whP (fun s : Int32 × Int32 × Int32 × Mm => bd_X11_couldWish_24  s.1 s.2.1 s.2.2.1 s.2.2.2) (fun s : Int32 × Int32 × Int32 × Mm => sd_X11_couldWish_24   s.1 s.2.1 s.2.2.1 s.2.2.2) FU (x1, x3, x4, μ)) (k : Q (some (.int (whl (fun s : Int32 × Int32 × Int32 × Mm => bd_X11_couldWish_24  s.1 s.2.1 s.2.2.1 s.2.2.2) (fun s : Int32 × Int32 × Int32 × Mm => (0, s.2.2.2)) FU (x1, x3, x4, μ)).1)) (whl (fun s : Int32 × Int32 × Int32 × Mm => bd_X11_couldWish_24  s.1 s.2.1 s.2.2.1 s.2.2.2) (fun s : Int32 × Int32 × Int32 × Mm => (0, s.2.2.2)) FU (x1, x3, x4, μ)).2) : J E G 5 mX11_couldWish Q 24 [(0, rf E 0), (1, .int x1), (3, .int x3), (4, .int x4)] [] μ := by
  refine J_whl (f := (fun s : Int32 × Int32 × Int32 × Mm => bd_X11_couldWish_24  s.1 s.2.1 s.2.2.1 s.2.2.2)) (dd := (fun s : Int32 × Int32 × Int32 × Mm => (0, s.2.2.2))) (sd := (fun s : Int32 × Int32 × Int32 × Mm => sd_X11_couldWish_24   s.1 s.2.1 s.2.2.1 s.2.2.2)) (P := fun s : Int32 × Int32 × Int32 × Mm => J E G 5 mX11_couldWish Q 24 [(0, rf E 0), (1, .int (s.1)), (3, .int (s.2.1)), (4, .int (s.2.2.1))] [] (s.2.2.2)) (R := fun r : Int32 × Mm => Q (some (.int (r).1)) (r).2) ?_ FU (x1, x3, x4, μ) p k
  clear p k
  rintro ⟨x1, x3, x4, μ⟩ t k1 k2
  dsimp only [sd_X11_couldWish_24] at t
  have kb : ∀ (y1 : Int32) (y3 : Int32) (y4 : Int32) (μ9 : Mm), bd_X11_couldWish_24  x1 x3 x4 μ = .inl (y1, y3, y4, μ9) → J E G 5 mX11_couldWish Q 24 [(0, rf E 0), (1, .int y1), (3, .int y3), (4, .int y4)] [] μ9 := fun y1 y3 y4 μ9 h => k1 (y1, y3, y4, μ9) h
  have kx : ∀ (y : Int32) (μ9 : Mm), bd_X11_couldWish_24  x1 x3 x4 μ = .inr (y, μ9) → Q (some (.int y)) μ9 := fun y μ9 h => k2 (y, μ9) h
  clear k1 k2
  refine J_iload (dk okX11_couldWish 13 rfl) 3 rfl ?_
  refine J_iload_n (dk okX11_couldWish 14 rfl) 2 rfl rfl ?_
  refine J_icmp_gt (tgt := 93) (dk okX11_couldWish 15 rfl) (by decide) (fun h1 => ?_) (fun h1 => ?_)
  · refine J_iconst (v := 1) (dk okX11_couldWish 46 rfl) (by decide) ?_
    exact J_zret (dk okX11_couldWish 47 rfl) rfl rfl (kx 1 μ (by unfold bd_X11_couldWish_24; first | (simp only [if_pos h1]; done) | (simp only [if_pos h1]; rfl) | rfl))
  · have t := t h1
    refine J_iload (dk okX11_couldWish 16 rfl) 3 rfl ?_
    refine J_bipush (v := 20) (dk okX11_couldWish 17 rfl) (by decide) ?_
    refine J_icmp_gt (tgt := 93) (dk okX11_couldWish 18 rfl) (by decide) (fun h2 => ?_) (fun h2 => ?_)
    · refine J_iconst (v := 1) (dk okX11_couldWish 46 rfl) (by decide) ?_
      exact J_zret (dk okX11_couldWish 47 rfl) rfl rfl (kx 1 μ (by unfold bd_X11_couldWish_24; first | (simp only [if_neg h1, if_pos h2]; done) | (simp only [if_neg h1, if_pos h2]; rfl) | rfl))
    · have t := t h2
      refine J_iload (dk okX11_couldWish 19 rfl) 3 rfl ?_
      obtain ⟨t9, t⟩ := t
      have K12 : J E G 5 mX11_couldWish Q 54 [(0, rf E 0), (1, .int x1), (3, .int x3), (4, .int x4)] [] (if x4 ≤ 0 then μ else ((e_X1_pass 8 15 μ)) : Mm) := by
        refine J_nm (fun μ6 eμ6 => ?_)
        have t := t μ6 eμ6
        refine J_aload_n (dk okX11_couldWish 27 rfl) 0 rfl rfl ?_
        refine J_getR (dk okX11_couldWish 28 rfl) kfX11_67 ds_0 rfl ?_
        refine J_iload (dk okX11_couldWish 29 rfl) 3 rfl ?_
        refine J_aload_n (dk okX11_couldWish 30 rfl) 0 rfl rfl ?_
        refine J_getR (dk okX11_couldWish 31 rfl) kfX11_16 ds_0 rfl ?_
        obtain ⟨s7, t⟩ := t
        refine J_callVi (As := [.int x4, rf E 8]) (dk okX11_couldWish 32 rfl) ds_38 rfl vkX6_agree lkX11_342 rfl rfl (Nat.le_of_ble_eq_true rfl) (by decide) (con_X6_agree FloorAt_8 s7 ⟨_, rfl, ?_⟩)
        refine J_if_ne (tgt := 72) (dk okX11_couldWish 33 rfl) (by decide) (fun h8 => ?_) (fun h8 => ?_)
        · have t := t h8
          refine J_aload_n (dk okX11_couldWish 36 rfl) 0 rfl rfl ?_
          refine J_getR (dk okX11_couldWish 37 rfl) kfX11_85 ds_0 rfl ?_
          refine J_iload (dk okX11_couldWish 38 rfl) 3 rfl ?_
          refine J_aload_n (dk okX11_couldWish 39 rfl) 0 rfl rfl ?_
          refine J_getR (dk okX11_couldWish 40 rfl) kfX11_16 ds_0 rfl ?_
          refine J_iload_n (dk okX11_couldWish 41 rfl) 1 rfl rfl ?_
          obtain ⟨s9, t⟩ := t
          refine J_callVi (As := [.int x1]) (dk okX11_couldWish 42 rfl) ds_8 rfl vkX1_placeOf lkX11_346 rfl rfl (Nat.le_of_ble_eq_true rfl) (by decide) (con_X1_placeOf FloorAt_8 s9 ⟨_, rfl, ?_⟩)
          have s10 := t
          refine J_iast (dk okX11_couldWish 43 rfl) ds_46 s10 ?_
          refine J_nm (fun μ11 eμ11 => ?_)
          refine J_iinc (v := (x4 + 1)) (ls' := [(4, _), (0, _), (1, _), (3, _)]) (dk okX11_couldWish 44 rfl) 3 rfl rfl (by decide) rfl ?_
          refine J_goto (tgt := 24) (dk okX11_couldWish 45 rfl) (by decide) ?_
          exact J_sub [1, 2, 3, 0] rfl (kb x1 x3 (x4 + 1) μ11 (by subst eμ11 eμ6; unfold bd_X11_couldWish_24; first | (simp only [if_neg h1, if_neg h2, if_neg h8]; done) | (simp only [if_neg h1, if_neg h2, if_neg h8]; rfl) | rfl))
        · refine J_iconst (v := 0) (dk okX11_couldWish 34 rfl) (by decide) ?_
          exact J_zret (dk okX11_couldWish 35 rfl) rfl rfl (kx 0 μ6 (by subst eμ6; unfold bd_X11_couldWish_24; first | (simp only [if_neg h1, if_neg h2, if_pos h8]; done) | (simp only [if_neg h1, if_neg h2, if_pos h8]; rfl) | rfl))
      have t := t9
      refine J_if_le (tgt := 54) (dk okX11_couldWish 20 rfl) (by decide) (fun h3 => ?_) (fun h3 => ?_)
      · refine J_sub (ls' := [(0, _), (1, _), (3, _), (4, _)]) [0, 1, 2, 3] rfl ?_
        (try simp only [if_pos h3] at K12 ⊢); exact K12
      · have t := t h3
        refine J_aload_n (dk okX11_couldWish 21 rfl) 0 rfl rfl ?_
        refine J_getR (dk okX11_couldWish 22 rfl) kfX11_16 ds_0 rfl ?_
        refine J_aload_n (dk okX11_couldWish 23 rfl) 0 rfl rfl ?_
        refine J_getR (dk okX11_couldWish 24 rfl) kfX11_22 ds_0 rfl ?_
        have s4 := t
        refine J_callVi (As := [rf E 15]) (dk okX11_couldWish 25 rfl) ds_8 rfl vkX1_pass lkX11_268 rfl rfl (Nat.le_of_ble_eq_true rfl) (by decide) (con_X1_pass FloorAt_8 RuleAt_15 s4 ⟨_, rfl, ?_⟩)
        refine J_nm (fun μ5 eμ5 => ?_)
        refine J_pop (dk okX11_couldWish 26 rfl) rfl ?_
        subst eμ5
        refine J_sub (ls' := [(0, _), (1, _), (3, _), (4, _)]) [0, 1, 2, 3] rfl ?_
        (try simp only [if_neg h3] at K12 ⊢); exact K12
/-- VotingFloor.couldWish(III)Z -/
noncomputable def v_X11_couldWish (p0 : Int32) (p1 : Int32) (p2 : Int32) (μ : Mm) : Int32 := (let μ2 : Mm := (e_X1_become 8 1 μ); (let μ4 : Mm := (e_X1_turn 8 p0 p1 μ2); (whl (fun s : Int32 × Int32 × Int32 × Mm => bd_X11_couldWish_24  s.1 s.2.1 s.2.2.1 s.2.2.2) (fun s : Int32 × Int32 × Int32 × Mm => (0, s.2.2.2)) FU (p0, p2, 0, μ4)).1))
noncomputable def e_X11_couldWish (p0 : Int32) (p1 : Int32) (p2 : Int32) (μ : Mm) : Mm := (let μ2 : Mm := (e_X1_become 8 1 μ); (let μ4 : Mm := (e_X1_turn 8 p0 p1 μ2); (whl (fun s : Int32 × Int32 × Int32 × Mm => bd_X11_couldWish_24  s.1 s.2.1 s.2.2.1 s.2.2.2) (fun s : Int32 × Int32 × Int32 × Mm => (0, s.2.2.2)) FU (p0, p2, 0, μ4)).2))
def p_X11_couldWish (p0 : Int32) (p1 : Int32) (p2 : Int32)  (μ : Mm) : Prop := (p_X1_become 8 1 μ) ∧ (∀ μ2 : Mm, μ2 = (e_X1_become 8 1 μ) → (p_X1_turn 8 p0 p1 μ2) ∧ (∀ μ4 : Mm, μ4 = (e_X1_turn 8 p0 p1 μ2) → whP (fun s : Int32 × Int32 × Int32 × Mm => bd_X11_couldWish_24  s.1 s.2.1 s.2.2.1 s.2.2.2) (fun s : Int32 × Int32 × Int32 × Mm => sd_X11_couldWish_24   s.1 s.2.1 s.2.2.1 s.2.2.2) FU (p0, p2, 0, μ4)))
set_option maxRecDepth 20000 in
set_option maxHeartbeats 4000000 in
theorem con_X11_couldWish {E : Ex} {Q : Option Value → Mm → Prop} {p0 : Int32} {p1 : Int32} {p2 : Int32} {μ : Mm} (t : p_X11_couldWish p0 p1 p2  μ) (k : Q (some (.int (v_X11_couldWish p0 p1 p2 μ))) (e_X11_couldWish p0 p1 p2 μ)) : Con E 5 mX11_couldWish [rf E 0, .int p0, .int p1, .int p2] μ Q := by
  refine Con_J (by decide +kernel) (Nat.le_of_ble_eq_true rfl) (fun G => ?_)
  unfold v_X11_couldWish e_X11_couldWish at k
  unfold p_X11_couldWish at t
  refine J_sub (ls' := [(0, rf E 0), (1, .int p0), (2, .int p1), (3, .int p2)]) [0, 1, 2, 3] rfl ?_
  refine J_aload_n (dk okX11_couldWish 0 rfl) 0 rfl rfl ?_
  refine J_getR (dk okX11_couldWish 1 rfl) kfX11_16 ds_0 rfl ?_
  refine J_aload_n (dk okX11_couldWish 2 rfl) 0 rfl rfl ?_
  refine J_getR (dk okX11_couldWish 3 rfl) kfX11_12 ds_0 rfl ?_
  obtain ⟨s1, t⟩ := t
  refine J_callVv (As := [rf E 1]) (dk okX11_couldWish 4 rfl) ds_8 rfl vkX1_become lkX11_259 rfl rfl (Nat.le_of_ble_eq_true rfl) (by decide) (con_X1_become FloorAt_8 FloorAt_1 s1 ⟨rfl, ?_⟩)
  refine J_nm (fun μ2 eμ2 => ?_)
  have t := t μ2 eμ2
  refine J_aload_n (dk okX11_couldWish 5 rfl) 0 rfl rfl ?_
  refine J_getR (dk okX11_couldWish 6 rfl) kfX11_16 ds_0 rfl ?_
  refine J_iload_n (dk okX11_couldWish 7 rfl) 1 rfl rfl ?_
  refine J_iload_n (dk okX11_couldWish 8 rfl) 2 rfl rfl ?_
  obtain ⟨s3, t⟩ := t
  refine J_callVi (As := [.int p0, .int p1]) (dk okX11_couldWish 9 rfl) ds_8 rfl vkX1_turn lkX11_223 rfl rfl (Nat.le_of_ble_eq_true rfl) (by decide) (con_X1_turn FloorAt_8 s3 ⟨_, rfl, ?_⟩)
  refine J_nm (fun μ4 eμ4 => ?_)
  have t := t μ4 eμ4
  refine J_pop (dk okX11_couldWish 10 rfl) rfl ?_
  refine J_iconst (v := 0) (dk okX11_couldWish 11 rfl) (by decide) ?_
  refine J_istore (ls' := [(4, _), (0, _), (1, _), (2, _), (3, _)]) (dk okX11_couldWish 12 rfl) (by decide) rfl ?_
  have s5 := t
  refine J_sub (ls' := [(0, _), (1, _), (3, _), (4, _)]) [1, 2, 4, 0] rfl ?_
  subst eμ4 eμ2
  exact lw_X11_couldWish_24  s5 k
/-- VotingFloor.drawYear()V -/
noncomputable def e_X11_drawYear  (μ : Mm) : Mm := (let μ2 : Mm := (e_X0_below 4 μ); (let μ15 : Mm := (if 2 ≤ (v_X0_below 4 μ) then (if (μ2.1 8 0) ≤ 0 then μ2 else (if (v_X0_below 4 μ) = 2 then ((e_X1_burden 8 (v_X0_below (μ2.1 8 0) μ2) (v_X0_below 10 ((e_X0_below (μ2.1 8 0) μ2))) ((e_X0_below 10 ((e_X0_below (μ2.1 8 0) μ2)))))) else ((e_X1_stepOffOrOn 8 (v_X0_below (μ2.1 8 0) μ2) ((e_X0_below (μ2.1 8 0) μ2)))) : Mm) : Mm) else ((e_X1_pass 8 15 μ2)) : Mm); μ15))
def p_X11_drawYear   (μ : Mm) : Prop := (p_X0_below 4 μ) ∧ (∀ μ2 : Mm, μ2 = (e_X0_below 4 μ) → ((2 ≤ (v_X0_below 4 μ) → (¬ ((μ2.1 8 0) ≤ 0) → (p_X0_below (μ2.1 8 0) μ2) ∧ (∀ μ6 : Mm, μ6 = (e_X0_below (μ2.1 8 0) μ2) → ((v_X0_below 4 μ) = 2 → (p_X0_below 10 μ6) ∧ (∀ μ9 : Mm, μ9 = (e_X0_below 10 μ6) → p_X1_burden 8 (v_X0_below (μ2.1 8 0) μ2) (v_X0_below 10 μ6) μ9))))) ∧ (¬ (2 ≤ (v_X0_below 4 μ)) → p_X1_pass 8 15 μ2)))
set_option maxRecDepth 20000 in
set_option maxHeartbeats 4000000 in
theorem con_X11_drawYear {E : Ex} {Q : Option Value → Mm → Prop} {μ : Mm} (t : p_X11_drawYear   μ) (k : Q none (e_X11_drawYear  μ)) : Con E 5 mX11_drawYear [rf E 0] μ Q := by
  refine Con_J (by decide +kernel) (Nat.le_of_ble_eq_true rfl) (fun G => ?_)
  unfold e_X11_drawYear at k
  unfold p_X11_drawYear at t
  refine J_sub (ls' := [(0, rf E 0)]) [0] rfl ?_
  refine J_aload_n (dk okX11_drawYear 0 rfl) 0 rfl rfl ?_
  refine J_getR (dk okX11_drawYear 1 rfl) kfX11_81 ds_0 rfl ?_
  refine J_iconst (v := 4) (dk okX11_drawYear 2 rfl) (by decide) ?_
  obtain ⟨s1, t⟩ := t
  refine J_callVi (As := [.int 4]) (dk okX11_drawYear 3 rfl) ds_45 rfl vkX0_below lkX11_391 rfl rfl (Nat.le_of_ble_eq_true rfl) (by decide) (con_X0_below s1 ⟨_, rfl, ?_⟩)
  refine J_nm (fun μ2 eμ2 => ?_)
  have t := t μ2 eμ2
  refine J_istore_n (ls' := [(1, _), (0, _)]) (dk okX11_drawYear 4 rfl) rfl (by decide) rfl ?_
  refine J_iload_n (dk okX11_drawYear 5 rfl) 0 rfl rfl ?_
  refine J_iconst (v := 2) (dk okX11_drawYear 6 rfl) (by decide) ?_
  have K16 : J E G 5 mX11_drawYear Q 89 [] [] (if 2 ≤ (v_X0_below 4 μ) then (if (μ2.1 8 0) ≤ 0 then μ2 else (if (v_X0_below 4 μ) = 2 then ((e_X1_burden 8 (v_X0_below (μ2.1 8 0) μ2) (v_X0_below 10 ((e_X0_below (μ2.1 8 0) μ2))) ((e_X0_below 10 ((e_X0_below (μ2.1 8 0) μ2)))))) else ((e_X1_stepOffOrOn 8 (v_X0_below (μ2.1 8 0) μ2) ((e_X0_below (μ2.1 8 0) μ2)))) : Mm) : Mm) else ((e_X1_pass 8 15 μ2)) : Mm) := by
    refine J_nm (fun μ15 eμ15 => ?_)
    subst eμ15 eμ2
    exact J_vret (dk okX11_drawYear 44 rfl) rfl k
  refine J_icmp_ge (tgt := 29) (dk okX11_drawYear 7 rfl) (by decide) (fun h3 => ?_) (fun h3 => ?_)
  · have t := t.1 h3
    refine J_aload_n (dk okX11_drawYear 15 rfl) 1 rfl rfl ?_
    refine J_getR (dk okX11_drawYear 16 rfl) kfX11_16 ds_0 rfl ?_
    refine J_getI (dk okX11_drawYear 17 rfl) kfX11_106 ds_8 rfl ?_
    refine J_if_le (tgt := 89) (dk okX11_drawYear 18 rfl) (by decide) (fun h4 => ?_) (fun h4 => ?_)
    · refine J_sub (ls' := []) [] rfl ?_
      (try simp only [if_pos h3, if_pos h4] at K16 ⊢); exact K16
    · have t := t h4
      refine J_aload_n (dk okX11_drawYear 19 rfl) 1 rfl rfl ?_
      refine J_getR (dk okX11_drawYear 20 rfl) kfX11_81 ds_0 rfl ?_
      refine J_aload_n (dk okX11_drawYear 21 rfl) 1 rfl rfl ?_
      refine J_getR (dk okX11_drawYear 22 rfl) kfX11_16 ds_0 rfl ?_
      refine J_getI (dk okX11_drawYear 23 rfl) kfX11_106 ds_8 rfl ?_
      obtain ⟨s5, t⟩ := t
      refine J_callVi (As := [.int (μ2.1 8 0)]) (dk okX11_drawYear 24 rfl) ds_45 rfl vkX0_below lkX11_391 rfl rfl (Nat.le_of_ble_eq_true rfl) (by decide) (con_X0_below s5 ⟨_, rfl, ?_⟩)
      refine J_nm (fun μ6 eμ6 => ?_)
      have t := t μ6 eμ6
      refine J_istore_n (ls' := [(2, _), (1, _), (0, _)]) (dk okX11_drawYear 25 rfl) rfl (by decide) rfl ?_
      refine J_iload_n (dk okX11_drawYear 26 rfl) 1 rfl rfl ?_
      refine J_iconst (v := 2) (dk okX11_drawYear 27 rfl) (by decide) ?_
      refine J_icmp_ne (tgt := 80) (dk okX11_drawYear 28 rfl) (by decide) (fun h7 => ?_) (fun h7 => ?_)
      · refine J_aload_n (dk okX11_drawYear 39 rfl) 2 rfl rfl ?_
        refine J_getR (dk okX11_drawYear 40 rfl) kfX11_16 ds_0 rfl ?_
        refine J_iload_n (dk okX11_drawYear 41 rfl) 0 rfl rfl ?_
        refine J_callVi (As := [.int (v_X0_below (μ2.1 8 0) μ2)]) (dk okX11_drawYear 42 rfl) ds_8 rfl vkX1_stepOffOrOn lkX11_220 rfl rfl (Nat.le_of_ble_eq_true rfl) (by decide) (con_X1_stepOffOrOn FloorAt_8 ⟨_, rfl, ?_⟩)
        refine J_nm (fun μ12 eμ12 => ?_)
        refine J_pop (dk okX11_drawYear 43 rfl) rfl ?_
        subst eμ12 eμ6
        refine J_sub (ls' := []) [] rfl ?_
        (try simp only [if_pos h3, if_neg h4, if_neg h7] at K16 ⊢); exact K16
      · have t := t h7
        refine J_aload_n (dk okX11_drawYear 29 rfl) 2 rfl rfl ?_
        refine J_getR (dk okX11_drawYear 30 rfl) kfX11_16 ds_0 rfl ?_
        refine J_iload_n (dk okX11_drawYear 31 rfl) 0 rfl rfl ?_
        refine J_aload_n (dk okX11_drawYear 32 rfl) 2 rfl rfl ?_
        refine J_getR (dk okX11_drawYear 33 rfl) kfX11_81 ds_0 rfl ?_
        refine J_bipush (v := 10) (dk okX11_drawYear 34 rfl) (by decide) ?_
        obtain ⟨s8, t⟩ := t
        refine J_callVi (As := [.int 10]) (dk okX11_drawYear 35 rfl) ds_45 rfl vkX0_below lkX11_391 rfl rfl (Nat.le_of_ble_eq_true rfl) (by decide) (con_X0_below s8 ⟨_, rfl, ?_⟩)
        refine J_nm (fun μ9 eμ9 => ?_)
        have t := t μ9 eμ9
        have s10 := t
        refine J_callVi (As := [.int (v_X0_below (μ2.1 8 0) μ2), .int (v_X0_below 10 μ6)]) (dk okX11_drawYear 36 rfl) ds_8 rfl vkX1_burden lkX11_217 rfl rfl (Nat.le_of_ble_eq_true rfl) (by decide) (con_X1_burden FloorAt_8 s10 ⟨_, rfl, ?_⟩)
        refine J_nm (fun μ11 eμ11 => ?_)
        refine J_pop (dk okX11_drawYear 37 rfl) rfl ?_
        refine J_goto (tgt := 89) (dk okX11_drawYear 38 rfl) (by decide) ?_
        subst eμ11 eμ9 eμ6
        refine J_sub (ls' := []) [] rfl ?_
        (try simp only [if_pos h3, if_neg h4, if_pos h7] at K16 ⊢); exact K16
  · have t := t.2 h3
    refine J_aload_n (dk okX11_drawYear 8 rfl) 1 rfl rfl ?_
    refine J_getR (dk okX11_drawYear 9 rfl) kfX11_16 ds_0 rfl ?_
    refine J_aload_n (dk okX11_drawYear 10 rfl) 1 rfl rfl ?_
    refine J_getR (dk okX11_drawYear 11 rfl) kfX11_22 ds_0 rfl ?_
    have s13 := t
    refine J_callVi (As := [rf E 15]) (dk okX11_drawYear 12 rfl) ds_8 rfl vkX1_pass lkX11_268 rfl rfl (Nat.le_of_ble_eq_true rfl) (by decide) (con_X1_pass FloorAt_8 RuleAt_15 s13 ⟨_, rfl, ?_⟩)
    refine J_nm (fun μ14 eμ14 => ?_)
    refine J_pop (dk okX11_drawYear 13 rfl) rfl ?_
    refine J_goto (tgt := 89) (dk okX11_drawYear 14 rfl) (by decide) ?_
    subst eμ14
    refine J_sub (ls' := []) [] rfl ?_
    (try simp only [if_neg h3] at K16 ⊢); exact K16
/-- VotingFloor.fits()I -/
noncomputable def v_X11_fits  (μ : Mm) : Int32 := (v_X2_fitting 1 μ)
noncomputable def e_X11_fits  (μ : Mm) : Mm := (let μ2 : Mm := (e_X10_begin  μ); (let μ4 : Mm := (e_X10_add (Int32.toInt64 (v_J6_bitCount_0f7a4 (v_X2_fitting 1 μ))) μ2); μ4))
def p_X11_fits   (μ : Mm) : Prop := (p_X2_fitting 1 μ) ∧ (∀ μ2 : Mm, μ2 = (e_X10_begin  μ) → p_X10_add (Int32.toInt64 (v_J6_bitCount_0f7a4 (v_X2_fitting 1 μ))) μ2)
set_option maxRecDepth 20000 in
set_option maxHeartbeats 4000000 in
theorem con_X11_fits {E : Ex} {Q : Option Value → Mm → Prop} {μ : Mm} (t : p_X11_fits   μ) (k : Q (some (.int (v_X11_fits  μ))) (e_X11_fits  μ)) : Con E 5 mX11_fits [rf E 0] μ Q := by
  refine Con_J (by decide +kernel) (Nat.le_of_ble_eq_true rfl) (fun G => ?_)
  unfold v_X11_fits e_X11_fits at k
  unfold p_X11_fits at t
  refine J_sub (ls' := [(0, rf E 0)]) [0] rfl ?_
  refine J_aload_n (dk okX11_fits 0 rfl) 0 rfl rfl ?_
  refine J_getR (dk okX11_fits 1 rfl) kfX11_74 ds_0 rfl ?_
  refine J_aload_n (dk okX11_fits 2 rfl) 0 rfl rfl ?_
  refine J_getR (dk okX11_fits 3 rfl) kfX11_12 ds_0 rfl ?_
  obtain ⟨s1, t⟩ := t
  refine J_callVi (As := [rf E 1]) (dk okX11_fits 4 rfl) ds_42 rfl vkX2_fitting lkX11_361 rfl rfl (Nat.le_of_ble_eq_true rfl) (by decide) (con_X2_fitting FloorAt_1 s1 ⟨_, rfl, ?_⟩)
  refine J_istore_n (ls' := [(1, _), (0, _)]) (dk okX11_fits 5 rfl) rfl (by decide) rfl ?_
  refine J_aload_n (dk okX11_fits 6 rfl) 1 rfl rfl ?_
  refine J_getR (dk okX11_fits 7 rfl) kfX11_39 ds_0 rfl ?_
  refine J_callVv (As := []) (dk okX11_fits 8 rfl) ds_27 rfl vkX10_begin lkX11_196 rfl rfl (Nat.le_of_ble_eq_true rfl) (by decide) (con_X10_begin  ⟨rfl, ?_⟩)
  refine J_nm (fun μ2 eμ2 => ?_)
  have t := t μ2 eμ2
  refine J_aload_n (dk okX11_fits 9 rfl) 1 rfl rfl ?_
  refine J_getR (dk okX11_fits 10 rfl) kfX11_39 ds_0 rfl ?_
  refine J_iload_n (dk okX11_fits 11 rfl) 0 rfl rfl ?_
  refine J_callSi (As := [.int (v_X2_fitting 1 μ)]) (dk okX11_fits 12 rfl) skJ6_bitCount_0f7a4 lkX11_206 rfl rfl (Nat.le_of_ble_eq_true rfl) (by decide) (con_J6_bitCount_0f7a4  ⟨_, rfl, ?_⟩)
  refine J_i2l (dk okX11_fits 13 rfl) ?_
  have s3 := t
  refine J_callVv (As := [.long (Int32.toInt64 (v_J6_bitCount_0f7a4 (v_X2_fitting 1 μ)))]) (dk okX11_fits 14 rfl) ds_27 rfl vkX10_add lkX11_199 rfl rfl (Nat.le_of_ble_eq_true rfl) (by decide) (con_X10_add s3 ⟨rfl, ?_⟩)
  refine J_nm (fun μ4 eμ4 => ?_)
  refine J_iload_n (dk okX11_fits 15 rfl) 0 rfl rfl ?_
  subst eμ4 eμ2
  exact J_iret (dk okX11_fits 16 rfl) rfl k
noncomputable def bd_X11_just_30  (x2 : Int32) (μ : Mm) : (Int32 × Mm) ⊕ (Mm) := (if (μ.1 1 0) ≤ x2 then .inr μ else (let μ4 : Mm := (upI μ 34 (Int32.toNatClampNeg x2) (v_X1_load 1 x2 μ)); .inl ((x2 + 1), μ4)))
def sd_X11_just_30   (x2 : Int32) (μ : Mm) : Prop := (¬ ((μ.1 1 0) ≤ x2) → (p_X1_load 1 x2 μ) ∧ vp_in x2 7)
set_option maxRecDepth 20000 in
set_option maxHeartbeats 4000000 in
theorem lw_X11_just_30 {E : Ex} {G : Gx} {Q : Option Value → Mm → Prop} {x2 : Int32} {μ : Mm}  (p : whP (fun s : Int32 × Mm => bd_X11_just_30  s.1 s.2) (fun s : Int32 × Mm => sd_X11_just_30   s.1 s.2) FU (x2, μ)) (k : ∀ r : Mm, r = whl (fun s : Int32 × Mm => bd_X11_just_30  s.1 s.2) (fun s : Int32 × Mm => s.2) FU (x2, μ) → J E G 5 mX11_just Q 64 [(0, rf E 0)] [] r) : J E G 5 mX11_just Q 30 [(0, rf E 0), (2, .int x2)] [] μ := by
  refine J_whl (f := (fun s : Int32 × Mm => bd_X11_just_30  s.1 s.2)) (dd := (fun s : Int32 × Mm => s.2)) (sd := (fun s : Int32 × Mm => sd_X11_just_30   s.1 s.2)) (P := fun s : Int32 × Mm => J E G 5 mX11_just Q 30 [(0, rf E 0), (2, .int (s.1))] [] (s.2)) (R := fun r : Mm => J E G 5 mX11_just Q 64 [(0, rf E 0)] [] r) ?_ FU (x2, μ) p (k _ rfl)
  clear p k
  rintro ⟨x2, μ⟩ t k1 k2
  dsimp only [sd_X11_just_30] at t
  have kb : ∀ (y2 : Int32) (μ9 : Mm), bd_X11_just_30  x2 μ = .inl (y2, μ9) → J E G 5 mX11_just Q 30 [(0, rf E 0), (2, .int y2)] [] μ9 := fun y2 μ9 h => k1 (y2, μ9) h
  have kx : ∀  (μ9 : Mm), bd_X11_just_30  x2 μ = .inr μ9 → J E G 5 mX11_just Q 64 [(0, rf E 0)] [] μ9 := fun  μ9 h => k2 μ9 h
  clear k1 k2
  refine J_iload_n (dk okX11_just 17 rfl) 1 rfl rfl ?_
  refine J_aload_n (dk okX11_just 18 rfl) 0 rfl rfl ?_
  refine J_getR (dk okX11_just 19 rfl) kfX11_12 ds_0 rfl ?_
  refine J_getI (dk okX11_just 20 rfl) kfX11_106 ds_1 rfl ?_
  refine J_icmp_ge (tgt := 64) (dk okX11_just 21 rfl) (by decide) (fun h1 => ?_) (fun h1 => ?_)
  · exact J_sub [0] rfl (kx μ (by unfold bd_X11_just_30; first | (simp only [if_pos h1]; done) | (simp only [if_pos h1]; rfl) | rfl))
  · have t := t h1
    refine J_aload_n (dk okX11_just 22 rfl) 0 rfl rfl ?_
    refine J_getR (dk okX11_just 23 rfl) kfX11_53 ds_0 rfl ?_
    refine J_getR (dk okX11_just 24 rfl) kfX11_291 ds_33 rfl ?_
    refine J_iload_n (dk okX11_just 25 rfl) 1 rfl rfl ?_
    refine J_aload_n (dk okX11_just 26 rfl) 0 rfl rfl ?_
    refine J_getR (dk okX11_just 27 rfl) kfX11_12 ds_0 rfl ?_
    refine J_iload_n (dk okX11_just 28 rfl) 1 rfl rfl ?_
    obtain ⟨s2, t⟩ := t
    refine J_callVi (As := [.int x2]) (dk okX11_just 29 rfl) ds_1 rfl vkX1_load lkX11_285 rfl rfl (Nat.le_of_ble_eq_true rfl) (by decide) (con_X1_load FloorAt_1 s2 ⟨_, rfl, ?_⟩)
    have s3 := t
    refine J_iast (dk okX11_just 30 rfl) ds_34 s3 ?_
    refine J_nm (fun μ4 eμ4 => ?_)
    refine J_iinc (v := (x2 + 1)) (ls' := [(2, _), (0, _)]) (dk okX11_just 31 rfl) 1 rfl rfl (by decide) rfl ?_
    refine J_goto (tgt := 30) (dk okX11_just 32 rfl) (by decide) ?_
    exact J_sub [1, 0] rfl (kb (x2 + 1) μ4 (by subst eμ4; unfold bd_X11_just_30; first | (simp only [if_neg h1]; done) | (simp only [if_neg h1]; rfl) | rfl))
/-- VotingFloor.just(I)I -/
noncomputable def v_X11_just (p0 : Int32) (μ : Mm) : Int32 := (if p0 < 0 then (-1) else (if p0 ≤ 99 then (let μ3 : Mm := (e_X8_start (v_X1_present 1 μ) (-p0) μ); (let r5 : Mm := whl (fun s : Int32 × Mm => bd_X11_just_30  s.1 s.2) (fun s : Int32 × Mm => s.2) FU (0, μ3); (v_X11_tellFewest 1 r5))) else (-1)))
noncomputable def e_X11_just (p0 : Int32) (μ : Mm) : Mm := (if p0 < 0 then μ else (if p0 ≤ 99 then (let μ3 : Mm := (e_X8_start (v_X1_present 1 μ) (-p0) μ); (let r5 : Mm := whl (fun s : Int32 × Mm => bd_X11_just_30  s.1 s.2) (fun s : Int32 × Mm => s.2) FU (0, μ3); (let μ7 : Mm := (e_X11_tellFewest 1 r5); (let μ11 : Mm := (if (v_X11_tellFewest 1 r5) = (-2) then μ7 else ((e_X10_add (Int32.toInt64 (μ7.1 33 4)) μ7)) : Mm); μ11)))) else μ))
def p_X11_just (p0 : Int32)  (μ : Mm) : Prop := (¬ (p0 < 0) → (p0 ≤ 99 → (∀ μ3 : Mm, μ3 = (e_X8_start (v_X1_present 1 μ) (-p0) μ) → (whP (fun s : Int32 × Mm => bd_X11_just_30  s.1 s.2) (fun s : Int32 × Mm => sd_X11_just_30   s.1 s.2) FU (0, μ3)) ∧ (∀ r5 : Mm, r5 = whl (fun s : Int32 × Mm => bd_X11_just_30  s.1 s.2) (fun s : Int32 × Mm => s.2) FU (0, μ3) → (p_X11_tellFewest 1 r5) ∧ (∀ μ7 : Mm, μ7 = (e_X11_tellFewest 1 r5) → (¬ ((v_X11_tellFewest 1 r5) = (-2)) → p_X10_add (Int32.toInt64 (μ7.1 33 4)) μ7))))))
set_option maxRecDepth 20000 in
set_option maxHeartbeats 4000000 in
theorem con_X11_just {E : Ex} {Q : Option Value → Mm → Prop} {p0 : Int32} {μ : Mm} (t : p_X11_just p0  μ) (k : Q (some (.int (v_X11_just p0 μ))) (e_X11_just p0 μ)) : Con E 5 mX11_just [rf E 0, .int p0] μ Q := by
  refine Con_J (by decide +kernel) (Nat.le_of_ble_eq_true rfl) (fun G => ?_)
  unfold v_X11_just e_X11_just at k
  unfold p_X11_just at t
  refine J_sub (ls' := [(0, rf E 0), (1, .int p0)]) [0, 1] rfl ?_
  refine J_iload_n (dk okX11_just 0 rfl) 1 rfl rfl ?_
  refine J_if_lt (tgt := 10) (dk okX11_just 1 rfl) (by decide) (fun h1 => ?_) (fun h1 => ?_)
  · refine J_iconst (v := (-1)) (dk okX11_just 5 rfl) (by decide) ?_
    (try simp only [if_pos h1] at k ⊢)
    exact J_iret (dk okX11_just 6 rfl) rfl k
  · have t := t h1
    refine J_iload_n (dk okX11_just 2 rfl) 1 rfl rfl ?_
    refine J_bipush (v := 99) (dk okX11_just 3 rfl) (by decide) ?_
    refine J_icmp_le (tgt := 12) (dk okX11_just 4 rfl) (by decide) (fun h2 => ?_) (fun h2 => ?_)
    · have t := t h2
      refine J_aload_n (dk okX11_just 7 rfl) 0 rfl rfl ?_
      refine J_getR (dk okX11_just 8 rfl) kfX11_53 ds_0 rfl ?_
      refine J_aload_n (dk okX11_just 9 rfl) 0 rfl rfl ?_
      refine J_getR (dk okX11_just 10 rfl) kfX11_12 ds_0 rfl ?_
      refine J_callVi (As := []) (dk okX11_just 11 rfl) ds_1 rfl vkX1_present lkX11_271 rfl rfl (Nat.le_of_ble_eq_true rfl) (by decide) (con_X1_present FloorAt_1 ⟨_, rfl, ?_⟩)
      refine J_iload_n (dk okX11_just 12 rfl) 1 rfl rfl ?_
      refine J_ineg (dk okX11_just 13 rfl) ?_
      refine J_callVv (As := [.int (v_X1_present 1 μ), .int (-p0)]) (dk okX11_just 14 rfl) ds_33 rfl vkX8_start lkX11_288 rfl rfl (Nat.le_of_ble_eq_true rfl) (by decide) (con_X8_start  ⟨rfl, ?_⟩)
      refine J_nm (fun μ3 eμ3 => ?_)
      have t := t μ3 eμ3
      refine J_iconst (v := 0) (dk okX11_just 15 rfl) (by decide) ?_
      refine J_istore_n (ls' := [(2, _), (0, _), (1, _)]) (dk okX11_just 16 rfl) rfl (by decide) rfl ?_
      obtain ⟨s4, t⟩ := t
      refine J_sub (ls' := [(0, _), (2, _)]) [1, 0] rfl ?_
      refine lw_X11_just_30  s4 (fun r5 er5 => ?_)
      have t := t r5 er5
      refine J_aload_n (dk okX11_just 33 rfl) 0 rfl rfl ?_
      refine J_iconst (v := 1) (dk okX11_just 34 rfl) (by decide) ?_
      obtain ⟨s6, t⟩ := t
      refine J_callVi (As := [.int 1]) (dk okX11_just 35 rfl) ds_0 rfl vkX11_tellFewest lkX11_294 rfl rfl (Nat.le_of_ble_eq_true rfl) (by decide) (con_X11_tellFewest s6 ⟨_, rfl, ?_⟩)
      refine J_nm (fun μ7 eμ7 => ?_)
      have t := t μ7 eμ7
      refine J_istore_n (ls' := [(2, _), (0, _)]) (dk okX11_just 36 rfl) rfl (by decide) rfl ?_
      refine J_iload_n (dk okX11_just 37 rfl) 0 rfl rfl ?_
      refine J_bipush (v := (-2)) (dk okX11_just 38 rfl) (by decide) ?_
      have K12 : J E G 5 mX11_just Q 91 [(2, .int (v_X11_tellFewest 1 r5))] [] (if (v_X11_tellFewest 1 r5) = (-2) then μ7 else ((e_X10_add (Int32.toInt64 (μ7.1 33 4)) μ7)) : Mm) := by
        refine J_nm (fun μ11 eμ11 => ?_)
        refine J_iload_n (dk okX11_just 47 rfl) 0 rfl rfl ?_
        subst eμ11 eμ7 er5 eμ3
        (try simp only [if_neg h1, if_pos h2] at k ⊢)
        exact J_iret (dk okX11_just 48 rfl) rfl k
      refine J_icmp_eq (tgt := 91) (dk okX11_just 39 rfl) (by decide) (fun h8 => ?_) (fun h8 => ?_)
      · refine J_sub (ls' := [(2, _)]) [0] rfl ?_
        (try simp only [if_pos h8] at K12 ⊢); exact K12
      · have t := t h8
        refine J_aload_n (dk okX11_just 40 rfl) 1 rfl rfl ?_
        refine J_getR (dk okX11_just 41 rfl) kfX11_39 ds_0 rfl ?_
        refine J_aload_n (dk okX11_just 42 rfl) 1 rfl rfl ?_
        refine J_getR (dk okX11_just 43 rfl) kfX11_53 ds_0 rfl ?_
        refine J_getI (dk okX11_just 44 rfl) kfX11_321 ds_33 rfl ?_
        refine J_i2l (dk okX11_just 45 rfl) ?_
        have s9 := t
        refine J_callVv (As := [.long (Int32.toInt64 (μ7.1 33 4))]) (dk okX11_just 46 rfl) ds_27 rfl vkX10_add lkX11_199 rfl rfl (Nat.le_of_ble_eq_true rfl) (by decide) (con_X10_add s9 ⟨rfl, ?_⟩)
        refine J_nm (fun μ10 eμ10 => ?_)
        subst eμ10
        refine J_sub (ls' := [(2, _)]) [0] rfl ?_
        (try simp only [if_neg h8] at K12 ⊢); exact K12
    · refine J_iconst (v := (-1)) (dk okX11_just 5 rfl) (by decide) ?_
      (try simp only [if_neg h1, if_neg h2] at k ⊢)
      exact J_iret (dk okX11_just 6 rfl) rfl k
noncomputable def bd_X11_level_22  (x1 : Int32) (x2 : Int32) (μ : Mm) : (Int32 × Int32 × Mm) ⊕ (Int32 × Mm) := (if 60 < x2 then .inr (x1, μ) else (let μ9 : Mm := (if (v_X1_moment 8 μ) = 0 then ((if x1 = 0 then ((e_X10_add (Int32.toInt64 x2) μ)) else μ : Mm)) else μ : Mm); (let μ11 : Mm := (e_X1_pass 8 15 μ9); .inl ((if (v_X1_moment 8 μ) = 0 then (x1 + 1) else x1 : Int32), (x2 + 1), μ11))))
def sd_X11_level_22   (x1 : Int32) (x2 : Int32) (μ : Mm) : Prop := (¬ (60 < x2) → (p_X1_moment 8 μ) ∧ (((v_X1_moment 8 μ) = 0 → (x1 = 0 → p_X10_add (Int32.toInt64 x2) μ))) ∧ (∀ μ9 : Mm, μ9 = (if (v_X1_moment 8 μ) = 0 then ((if x1 = 0 then ((e_X10_add (Int32.toInt64 x2) μ)) else μ : Mm)) else μ : Mm) → p_X1_pass 8 15 μ9))
set_option maxRecDepth 20000 in
set_option maxHeartbeats 4000000 in
theorem lw_X11_level_22 {E : Ex} {G : Gx} {Q : Option Value → Mm → Prop} {x1 : Int32} {x2 : Int32} {μ : Mm}  (p : whP (fun s : Int32 × Int32 × Mm => bd_X11_level_22  s.1 s.2.1 s.2.2) (fun s : Int32 × Int32 × Mm => sd_X11_level_22   s.1 s.2.1 s.2.2) FU (x1, x2, μ)) (k : ∀ r : Int32 × Mm, r = whl (fun s : Int32 × Int32 × Mm => bd_X11_level_22  s.1 s.2.1 s.2.2) (fun s : Int32 × Int32 × Mm => (0, s.2.2)) FU (x1, x2, μ) → J E G 5 mX11_level Q 72 [(1, .int (r.1))] [] (r.2)) : J E G 5 mX11_level Q 22 [(0, rf E 0), (1, .int x1), (2, .int x2)] [] μ := by
  refine J_whl (f := (fun s : Int32 × Int32 × Mm => bd_X11_level_22  s.1 s.2.1 s.2.2)) (dd := (fun s : Int32 × Int32 × Mm => (0, s.2.2))) (sd := (fun s : Int32 × Int32 × Mm => sd_X11_level_22   s.1 s.2.1 s.2.2)) (P := fun s : Int32 × Int32 × Mm => J E G 5 mX11_level Q 22 [(0, rf E 0), (1, .int (s.1)), (2, .int (s.2.1))] [] (s.2.2)) (R := fun r : Int32 × Mm => J E G 5 mX11_level Q 72 [(1, .int (r.1))] [] (r.2)) ?_ FU (x1, x2, μ) p (k _ rfl)
  clear p k
  rintro ⟨x1, x2, μ⟩ t k1 k2
  dsimp only [sd_X11_level_22] at t
  have kb : ∀ (y1 : Int32) (y2 : Int32) (μ9 : Mm), bd_X11_level_22  x1 x2 μ = .inl (y1, y2, μ9) → J E G 5 mX11_level Q 22 [(0, rf E 0), (1, .int y1), (2, .int y2)] [] μ9 := fun y1 y2 μ9 h => k1 (y1, y2, μ9) h
  have kx : ∀ (y1 : Int32) (μ9 : Mm), bd_X11_level_22  x1 x2 μ = .inr (y1, μ9) → J E G 5 mX11_level Q 72 [(1, .int y1)] [] μ9 := fun y1 μ9 h => k2 (y1, μ9) h
  clear k1 k2
  refine J_iload_n (dk okX11_level 12 rfl) 2 rfl rfl ?_
  refine J_bipush (v := 60) (dk okX11_level 13 rfl) (by decide) ?_
  refine J_icmp_gt (tgt := 72) (dk okX11_level 14 rfl) (by decide) (fun h1 => ?_) (fun h1 => ?_)
  · exact J_sub [1] rfl (kx x1 μ (by unfold bd_X11_level_22; first | (simp only [if_pos h1]; done) | (simp only [if_pos h1]; rfl) | rfl))
  · have t := t h1
    refine J_aload_n (dk okX11_level 15 rfl) 0 rfl rfl ?_
    refine J_getR (dk okX11_level 16 rfl) kfX11_16 ds_0 rfl ?_
    obtain ⟨s2, t⟩ := t
    refine J_callVi (As := []) (dk okX11_level 17 rfl) ds_8 rfl vkX1_moment lkX11_163 rfl rfl (Nat.le_of_ble_eq_true rfl) (by decide) (con_X1_moment FloorAt_8 s2 ⟨_, rfl, ?_⟩)
    obtain ⟨t9, t⟩ := t
    have K12 : J E G 5 mX11_level Q 54 [(0, rf E 0), (1, .int (if (v_X1_moment 8 μ) = 0 then (x1 + 1) else x1 : Int32)), (2, .int x2)] [] (if (v_X1_moment 8 μ) = 0 then ((if x1 = 0 then ((e_X10_add (Int32.toInt64 x2) μ)) else μ : Mm)) else μ : Mm) := by
      refine J_nm (fun μ9 eμ9 => ?_)
      have t := t μ9 eμ9
      refine J_aload_n (dk okX11_level 27 rfl) 0 rfl rfl ?_
      refine J_getR (dk okX11_level 28 rfl) kfX11_16 ds_0 rfl ?_
      refine J_aload_n (dk okX11_level 29 rfl) 0 rfl rfl ?_
      refine J_getR (dk okX11_level 30 rfl) kfX11_22 ds_0 rfl ?_
      have s10 := t
      refine J_callVi (As := [rf E 15]) (dk okX11_level 31 rfl) ds_8 rfl vkX1_pass lkX11_268 rfl rfl (Nat.le_of_ble_eq_true rfl) (by decide) (con_X1_pass FloorAt_8 RuleAt_15 s10 ⟨_, rfl, ?_⟩)
      refine J_nm (fun μ11 eμ11 => ?_)
      refine J_pop (dk okX11_level 32 rfl) rfl ?_
      refine J_iinc (v := (x2 + 1)) (ls' := [(2, _), (0, _), (1, _)]) (dk okX11_level 33 rfl) 2 rfl rfl (by decide) rfl ?_
      refine J_goto (tgt := 22) (dk okX11_level 34 rfl) (by decide) ?_
      exact J_sub [1, 2, 0] rfl (kb (if (v_X1_moment 8 μ) = 0 then (x1 + 1) else x1 : Int32) (x2 + 1) μ11 (by subst eμ11 eμ9; unfold bd_X11_level_22; first | (simp only [if_neg h1]; done) | (simp only [if_neg h1]; rfl) | rfl))
    have t := t9
    refine J_if_ne (tgt := 54) (dk okX11_level 18 rfl) (by decide) (fun h3 => ?_) (fun h3 => ?_)
    · refine J_sub (ls' := [(0, _), (1, _), (2, _)]) [0, 1, 2] rfl ?_
      (try simp only [if_neg h3] at K12 ⊢); exact K12
    · have t := t h3
      refine J_iload_n (dk okX11_level 19 rfl) 1 rfl rfl ?_
      have K8 : J E G 5 mX11_level Q 51 [(0, rf E 0), (1, .int x1), (2, .int x2)] [] (if x1 = 0 then ((e_X10_add (Int32.toInt64 x2) μ)) else μ : Mm) := by
        refine J_nm (fun μ7 eμ7 => ?_)
        refine J_iinc (v := (x1 + 1)) (ls' := [(1, _), (0, _), (2, _)]) (dk okX11_level 26 rfl) 1 rfl rfl (by decide) rfl ?_
        subst eμ7
        refine J_sub (ls' := [(0, _), (1, _), (2, _)]) [1, 0, 2] rfl ?_
        (try simp only [if_pos h3] at K12 ⊢); exact K12
      refine J_if_ne (tgt := 51) (dk okX11_level 20 rfl) (by decide) (fun h4 => ?_) (fun h4 => ?_)
      · refine J_sub (ls' := [(0, _), (1, _), (2, _)]) [0, 1, 2] rfl ?_
        (try simp only [if_neg h4] at K8 ⊢); exact K8
      · have t := t h4
        refine J_aload_n (dk okX11_level 21 rfl) 0 rfl rfl ?_
        refine J_getR (dk okX11_level 22 rfl) kfX11_39 ds_0 rfl ?_
        refine J_iload_n (dk okX11_level 23 rfl) 2 rfl rfl ?_
        refine J_i2l (dk okX11_level 24 rfl) ?_
        have s5 := t
        refine J_callVv (As := [.long (Int32.toInt64 x2)]) (dk okX11_level 25 rfl) ds_27 rfl vkX10_add lkX11_199 rfl rfl (Nat.le_of_ble_eq_true rfl) (by decide) (con_X10_add s5 ⟨rfl, ?_⟩)
        refine J_nm (fun μ6 eμ6 => ?_)
        subst eμ6
        refine J_sub (ls' := [(0, _), (1, _), (2, _)]) [0, 1, 2] rfl ?_
        (try simp only [if_pos h4] at K8 ⊢); exact K8
/-- VotingFloor.level()I -/
noncomputable def v_X11_level  (μ : Mm) : Int32 := (let μ2 : Mm := (e_X1_become 8 1 μ); (let μ3 : Mm := (e_X10_begin  μ2); (let r5 : Int32 × Mm := whl (fun s : Int32 × Int32 × Mm => bd_X11_level_22  s.1 s.2.1 s.2.2) (fun s : Int32 × Int32 × Mm => (0, s.2.2)) FU (0, 0, μ3); (r5.1))))
noncomputable def e_X11_level  (μ : Mm) : Mm := (let μ2 : Mm := (e_X1_become 8 1 μ); (let μ3 : Mm := (e_X10_begin  μ2); (let r5 : Int32 × Mm := whl (fun s : Int32 × Int32 × Mm => bd_X11_level_22  s.1 s.2.1 s.2.2) (fun s : Int32 × Int32 × Mm => (0, s.2.2)) FU (0, 0, μ3); (r5.2))))
def p_X11_level   (μ : Mm) : Prop := (p_X1_become 8 1 μ) ∧ (∀ μ2 : Mm, μ2 = (e_X1_become 8 1 μ) → (∀ μ3 : Mm, μ3 = (e_X10_begin  μ2) → whP (fun s : Int32 × Int32 × Mm => bd_X11_level_22  s.1 s.2.1 s.2.2) (fun s : Int32 × Int32 × Mm => sd_X11_level_22   s.1 s.2.1 s.2.2) FU (0, 0, μ3)))
set_option maxRecDepth 20000 in
set_option maxHeartbeats 4000000 in
theorem con_X11_level {E : Ex} {Q : Option Value → Mm → Prop} {μ : Mm} (t : p_X11_level   μ) (k : Q (some (.int (v_X11_level  μ))) (e_X11_level  μ)) : Con E 5 mX11_level [rf E 0] μ Q := by
  refine Con_J (by decide +kernel) (Nat.le_of_ble_eq_true rfl) (fun G => ?_)
  unfold v_X11_level e_X11_level at k
  unfold p_X11_level at t
  refine J_sub (ls' := [(0, rf E 0)]) [0] rfl ?_
  refine J_aload_n (dk okX11_level 0 rfl) 0 rfl rfl ?_
  refine J_getR (dk okX11_level 1 rfl) kfX11_16 ds_0 rfl ?_
  refine J_aload_n (dk okX11_level 2 rfl) 0 rfl rfl ?_
  refine J_getR (dk okX11_level 3 rfl) kfX11_12 ds_0 rfl ?_
  obtain ⟨s1, t⟩ := t
  refine J_callVv (As := [rf E 1]) (dk okX11_level 4 rfl) ds_8 rfl vkX1_become lkX11_259 rfl rfl (Nat.le_of_ble_eq_true rfl) (by decide) (con_X1_become FloorAt_8 FloorAt_1 s1 ⟨rfl, ?_⟩)
  refine J_nm (fun μ2 eμ2 => ?_)
  have t := t μ2 eμ2
  refine J_aload_n (dk okX11_level 5 rfl) 0 rfl rfl ?_
  refine J_getR (dk okX11_level 6 rfl) kfX11_39 ds_0 rfl ?_
  refine J_callVv (As := []) (dk okX11_level 7 rfl) ds_27 rfl vkX10_begin lkX11_196 rfl rfl (Nat.le_of_ble_eq_true rfl) (by decide) (con_X10_begin  ⟨rfl, ?_⟩)
  refine J_nm (fun μ3 eμ3 => ?_)
  have t := t μ3 eμ3
  refine J_iconst (v := 0) (dk okX11_level 8 rfl) (by decide) ?_
  refine J_istore_n (ls' := [(1, _), (0, _)]) (dk okX11_level 9 rfl) rfl (by decide) rfl ?_
  refine J_iconst (v := 0) (dk okX11_level 10 rfl) (by decide) ?_
  refine J_istore_n (ls' := [(2, _), (1, _), (0, _)]) (dk okX11_level 11 rfl) rfl (by decide) rfl ?_
  have s4 := t
  refine J_sub (ls' := [(0, _), (1, _), (2, _)]) [2, 1, 0] rfl ?_
  refine lw_X11_level_22  s4 (fun r5 er5 => ?_)
  refine J_iload_n (dk okX11_level 35 rfl) 0 rfl rfl ?_
  subst er5 eμ3 eμ2
  exact J_iret (dk okX11_level 36 rfl) rfl k
/-- VotingFloor.power(I)I -/
noncomputable def v_X11_power (p0 : Int32) (μ : Mm) : Int32 := (if (v_X1_has 1 p0 μ) = 0 then (-1) else (if (v_X1_isOff 1 p0 μ) = 0 then 0 else (-2)))
noncomputable def e_X11_power (p0 : Int32) (μ : Mm) : Mm := (if (v_X1_has 1 p0 μ) = 0 then μ else (if (v_X1_isOff 1 p0 μ) = 0 then (let μ4 : Mm := (e_X11_waysDecidedBy p0 μ); (let μ6 : Mm := (e_X11_tellFraction (Int32.toInt64 (v_X11_waysDecidedBy p0 μ)) (Int32.toInt64 (1 <<< ((if 0 < ((v_J6_bitCount_0f7a4 (v_X1_present 1 μ4)) - 1) then ((v_J6_bitCount_0f7a4 (v_X1_present 1 μ4)) - 1) else 0) &&& 31))) μ4); μ6)) else μ))
def p_X11_power (p0 : Int32)  (μ : Mm) : Prop := (¬ ((v_X1_has 1 p0 μ) = 0) → ((v_X1_isOff 1 p0 μ) = 0 → (p_X11_waysDecidedBy p0 μ) ∧ (∀ μ4 : Mm, μ4 = (e_X11_waysDecidedBy p0 μ) → p_X11_tellFraction (Int32.toInt64 (v_X11_waysDecidedBy p0 μ)) (Int32.toInt64 (1 <<< ((if 0 < ((v_J6_bitCount_0f7a4 (v_X1_present 1 μ4)) - 1) then ((v_J6_bitCount_0f7a4 (v_X1_present 1 μ4)) - 1) else 0) &&& 31))) μ4)))
set_option maxRecDepth 20000 in
set_option maxHeartbeats 4000000 in
theorem con_X11_power {E : Ex} {Q : Option Value → Mm → Prop} {p0 : Int32} {μ : Mm} (t : p_X11_power p0  μ) (k : Q (some (.int (v_X11_power p0 μ))) (e_X11_power p0 μ)) : Con E 5 mX11_power [rf E 0, .int p0] μ Q := by
  refine Con_J (by decide +kernel) (Nat.le_of_ble_eq_true rfl) (fun G => ?_)
  unfold v_X11_power e_X11_power at k
  unfold p_X11_power at t
  refine J_sub (ls' := [(0, rf E 0), (1, .int p0)]) [0, 1] rfl ?_
  refine J_aload_n (dk okX11_power 0 rfl) 0 rfl rfl ?_
  refine J_getR (dk okX11_power 1 rfl) kfX11_12 ds_0 rfl ?_
  refine J_iload_n (dk okX11_power 2 rfl) 1 rfl rfl ?_
  refine J_callVi (As := [.int p0]) (dk okX11_power 3 rfl) ds_1 rfl vkX1_has lkX11_138 rfl rfl (Nat.le_of_ble_eq_true rfl) (by decide) (con_X1_has FloorAt_1 ⟨_, rfl, ?_⟩)
  refine J_if_ne (tgt := 13) (dk okX11_power 4 rfl) (by decide) (fun h1 => ?_) (fun h1 => ?_)
  · have t := t h1
    refine J_aload_n (dk okX11_power 7 rfl) 0 rfl rfl ?_
    refine J_getR (dk okX11_power 8 rfl) kfX11_12 ds_0 rfl ?_
    refine J_iload_n (dk okX11_power 9 rfl) 1 rfl rfl ?_
    refine J_callVi (As := [.int p0]) (dk okX11_power 10 rfl) ds_1 rfl vkX1_isOff lkX11_160 rfl rfl (Nat.le_of_ble_eq_true rfl) (by decide) (con_X1_isOff FloorAt_1 ⟨_, rfl, ?_⟩)
    refine J_if_eq (tgt := 27) (dk okX11_power 11 rfl) (by decide) (fun h2 => ?_) (fun h2 => ?_)
    · have t := t h2
      refine J_aload_n (dk okX11_power 14 rfl) 0 rfl rfl ?_
      refine J_iload_n (dk okX11_power 15 rfl) 1 rfl rfl ?_
      obtain ⟨s3, t⟩ := t
      refine J_callVi (As := [.int p0]) (dk okX11_power 16 rfl) ds_0 rfl vkX11_waysDecidedBy lkX11_308 rfl rfl (Nat.le_of_ble_eq_true rfl) (by decide) (con_X11_waysDecidedBy s3 ⟨_, rfl, ?_⟩)
      refine J_nm (fun μ4 eμ4 => ?_)
      have t := t μ4 eμ4
      refine J_istore_n (ls' := [(2, _), (0, _), (1, _)]) (dk okX11_power 17 rfl) rfl (by decide) rfl ?_
      refine J_aload_n (dk okX11_power 18 rfl) 1 rfl rfl ?_
      refine J_iload_n (dk okX11_power 19 rfl) 0 rfl rfl ?_
      refine J_i2l (dk okX11_power 20 rfl) ?_
      refine J_iconst (v := 1) (dk okX11_power 21 rfl) (by decide) ?_
      refine J_iconst (v := 0) (dk okX11_power 22 rfl) (by decide) ?_
      refine J_aload_n (dk okX11_power 23 rfl) 1 rfl rfl ?_
      refine J_getR (dk okX11_power 24 rfl) kfX11_12 ds_0 rfl ?_
      refine J_callVi (As := []) (dk okX11_power 25 rfl) ds_1 rfl vkX1_present lkX11_271 rfl rfl (Nat.le_of_ble_eq_true rfl) (by decide) (con_X1_present FloorAt_1 ⟨_, rfl, ?_⟩)
      refine J_callSi (As := [.int (v_X1_present 1 μ4)]) (dk okX11_power 26 rfl) skJ6_bitCount_0f7a4 lkX11_206 rfl rfl (Nat.le_of_ble_eq_true rfl) (by decide) (con_J6_bitCount_0f7a4  ⟨_, rfl, ?_⟩)
      refine J_iconst (v := 1) (dk okX11_power 27 rfl) (by decide) ?_
      refine J_isub (dk okX11_power 28 rfl) ?_
      refine J_mmax (dk okX11_power 29 rfl) lkX11_177 mk_max_s mk_Math mk_max_c (by decide) (Nat.le_of_ble_eq_true rfl) ?_
      refine J_ishl (dk okX11_power 30 rfl) ?_
      refine J_i2l (dk okX11_power 31 rfl) ?_
      have s5 := t
      refine J_callVv (As := [.long (Int32.toInt64 (v_X11_waysDecidedBy p0 μ)), .long (Int32.toInt64 (1 <<< ((if 0 < ((v_J6_bitCount_0f7a4 (v_X1_present 1 μ4)) - 1) then ((v_J6_bitCount_0f7a4 (v_X1_present 1 μ4)) - 1) else 0) &&& 31)))]) (dk okX11_power 32 rfl) ds_0 rfl vkX11_tellFraction lkX11_311 rfl rfl (Nat.le_of_ble_eq_true rfl) (by decide) (con_X11_tellFraction s5 ⟨rfl, ?_⟩)
      refine J_nm (fun μ6 eμ6 => ?_)
      refine J_iconst (v := 0) (dk okX11_power 33 rfl) (by decide) ?_
      subst eμ6 eμ4
      (try simp only [if_neg h1, if_pos h2] at k ⊢)
      exact J_iret (dk okX11_power 34 rfl) rfl k
    · refine J_bipush (v := (-2)) (dk okX11_power 12 rfl) (by decide) ?_
      (try simp only [if_neg h1, if_neg h2] at k ⊢)
      exact J_iret (dk okX11_power 13 rfl) rfl k
  · refine J_iconst (v := (-1)) (dk okX11_power 5 rfl) (by decide) ?_
    (try simp only [if_pos h1] at k ⊢)
    exact J_iret (dk okX11_power 6 rfl) rfl k
noncomputable def bd_X11_rest_13  (x1 : Int32) (μ : Mm) : (Int32 × Mm) ⊕ (Int32 × Mm) := (if 60 < x1 then .inr ((-2), μ) else (let μ4 : Mm := (e_X1_pass 8 15 μ); (if (v_X1_pass 8 15 μ) = 0 then (let μ6 : Mm := (e_X10_begin  μ4); (let μ8 : Mm := (e_X10_add (Int32.toInt64 (2000 + (v_X1_moment 8 μ))) μ6); .inr (x1, μ8))) else .inl ((x1 + 1), μ4))))
def sd_X11_rest_13   (x1 : Int32) (μ : Mm) : Prop := (¬ (60 < x1) → (p_X1_moment 8 μ) ∧ (p_X1_pass 8 15 μ) ∧ (∀ μ4 : Mm, μ4 = (e_X1_pass 8 15 μ) → ((v_X1_pass 8 15 μ) = 0 → (∀ μ6 : Mm, μ6 = (e_X10_begin  μ4) → p_X10_add (Int32.toInt64 (2000 + (v_X1_moment 8 μ))) μ6))))
set_option maxRecDepth 20000 in
set_option maxHeartbeats 4000000 in
theorem lw_X11_rest_13 {E : Ex} {G : Gx} {Q : Option Value → Mm → Prop} {x1 : Int32} {μ : Mm}  (p : whP (fun s : Int32 × Mm => bd_X11_rest_13  s.1 s.2) (fun s : Int32 × Mm => sd_X11_rest_13   s.1 s.2) FU (x1, μ)) (k : Q (some (.int (whl (fun s : Int32 × Mm => bd_X11_rest_13  s.1 s.2) (fun s : Int32 × Mm => (0, s.2)) FU (x1, μ)).1)) (whl (fun s : Int32 × Mm => bd_X11_rest_13  s.1 s.2) (fun s : Int32 × Mm => (0, s.2)) FU (x1, μ)).2) : J E G 5 mX11_rest Q 13 [(0, rf E 0), (1, .int x1)] [] μ := by
  refine J_whl (f := (fun s : Int32 × Mm => bd_X11_rest_13  s.1 s.2)) (dd := (fun s : Int32 × Mm => (0, s.2))) (sd := (fun s : Int32 × Mm => sd_X11_rest_13   s.1 s.2)) (P := fun s : Int32 × Mm => J E G 5 mX11_rest Q 13 [(0, rf E 0), (1, .int (s.1))] [] (s.2)) (R := fun r : Int32 × Mm => Q (some (.int (r).1)) (r).2) ?_ FU (x1, μ) p k
  clear p k
  rintro ⟨x1, μ⟩ t k1 k2
  dsimp only [sd_X11_rest_13] at t
  have kb : ∀ (y1 : Int32) (μ9 : Mm), bd_X11_rest_13  x1 μ = .inl (y1, μ9) → J E G 5 mX11_rest Q 13 [(0, rf E 0), (1, .int y1)] [] μ9 := fun y1 μ9 h => k1 (y1, μ9) h
  have kx : ∀ (y : Int32) (μ9 : Mm), bd_X11_rest_13  x1 μ = .inr (y, μ9) → Q (some (.int y)) μ9 := fun y μ9 h => k2 (y, μ9) h
  clear k1 k2
  refine J_iload_n (dk okX11_rest 7 rfl) 1 rfl rfl ?_
  refine J_bipush (v := 60) (dk okX11_rest 8 rfl) (by decide) ?_
  refine J_icmp_gt (tgt := 69) (dk okX11_rest 9 rfl) (by decide) (fun h1 => ?_) (fun h1 => ?_)
  · refine J_bipush (v := (-2)) (dk okX11_rest 34 rfl) (by decide) ?_
    exact J_iret (dk okX11_rest 35 rfl) rfl (kx (-2) μ (by unfold bd_X11_rest_13; first | (simp only [if_pos h1]; done) | (simp only [if_pos h1]; rfl) | rfl))
  · have t := t h1
    refine J_aload_n (dk okX11_rest 10 rfl) 0 rfl rfl ?_
    refine J_getR (dk okX11_rest 11 rfl) kfX11_16 ds_0 rfl ?_
    obtain ⟨s2, t⟩ := t
    refine J_callVi (As := []) (dk okX11_rest 12 rfl) ds_8 rfl vkX1_moment lkX11_163 rfl rfl (Nat.le_of_ble_eq_true rfl) (by decide) (con_X1_moment FloorAt_8 s2 ⟨_, rfl, ?_⟩)
    refine J_istore_n (ls' := [(2, _), (0, _), (1, _)]) (dk okX11_rest 13 rfl) rfl (by decide) rfl ?_
    refine J_aload_n (dk okX11_rest 14 rfl) 1 rfl rfl ?_
    refine J_getR (dk okX11_rest 15 rfl) kfX11_16 ds_0 rfl ?_
    refine J_aload_n (dk okX11_rest 16 rfl) 1 rfl rfl ?_
    refine J_getR (dk okX11_rest 17 rfl) kfX11_22 ds_0 rfl ?_
    obtain ⟨s3, t⟩ := t
    refine J_callVi (As := [rf E 15]) (dk okX11_rest 18 rfl) ds_8 rfl vkX1_pass lkX11_268 rfl rfl (Nat.le_of_ble_eq_true rfl) (by decide) (con_X1_pass FloorAt_8 RuleAt_15 s3 ⟨_, rfl, ?_⟩)
    refine J_nm (fun μ4 eμ4 => ?_)
    have t := t μ4 eμ4
    refine J_if_ne (tgt := 63) (dk okX11_rest 19 rfl) (by decide) (fun h5 => ?_) (fun h5 => ?_)
    · refine J_iinc (v := (x1 + 1)) (ls' := [(1, _), (2, _), (0, _)]) (dk okX11_rest 32 rfl) 2 rfl rfl (by decide) rfl ?_
      refine J_goto (tgt := 13) (dk okX11_rest 33 rfl) (by decide) ?_
      exact J_sub [2, 0] rfl (kb (x1 + 1) μ4 (by subst eμ4; unfold bd_X11_rest_13; first | (simp only [if_neg h1, if_neg h5]; done) | (simp only [if_neg h1, if_neg h5]; rfl) | rfl))
    · have t := t h5
      refine J_aload_n (dk okX11_rest 20 rfl) 1 rfl rfl ?_
      refine J_getR (dk okX11_rest 21 rfl) kfX11_39 ds_0 rfl ?_
      refine J_callVv (As := []) (dk okX11_rest 22 rfl) ds_27 rfl vkX10_begin lkX11_196 rfl rfl (Nat.le_of_ble_eq_true rfl) (by decide) (con_X10_begin  ⟨rfl, ?_⟩)
      refine J_nm (fun μ6 eμ6 => ?_)
      have t := t μ6 eμ6
      refine J_aload_n (dk okX11_rest 23 rfl) 1 rfl rfl ?_
      refine J_getR (dk okX11_rest 24 rfl) kfX11_39 ds_0 rfl ?_
      refine J_sipush (v := 2000) (dk okX11_rest 25 rfl) (by decide) ?_
      refine J_iload_n (dk okX11_rest 26 rfl) 0 rfl rfl ?_
      refine J_iadd (dk okX11_rest 27 rfl) ?_
      refine J_i2l (dk okX11_rest 28 rfl) ?_
      have s7 := t
      refine J_callVv (As := [.long (Int32.toInt64 (2000 + (v_X1_moment 8 μ)))]) (dk okX11_rest 29 rfl) ds_27 rfl vkX10_add lkX11_199 rfl rfl (Nat.le_of_ble_eq_true rfl) (by decide) (con_X10_add s7 ⟨rfl, ?_⟩)
      refine J_nm (fun μ8 eμ8 => ?_)
      refine J_iload_n (dk okX11_rest 30 rfl) 2 rfl rfl ?_
      exact J_iret (dk okX11_rest 31 rfl) rfl (kx x1 μ8 (by subst eμ8 eμ6 eμ4; unfold bd_X11_rest_13; first | (simp only [if_neg h1, if_pos h5]; done) | (simp only [if_neg h1, if_pos h5]; rfl) | rfl))
/-- VotingFloor.rest()I -/
noncomputable def v_X11_rest  (μ : Mm) : Int32 := (let μ2 : Mm := (e_X1_become 8 1 μ); (whl (fun s : Int32 × Mm => bd_X11_rest_13  s.1 s.2) (fun s : Int32 × Mm => (0, s.2)) FU (0, μ2)).1)
noncomputable def e_X11_rest  (μ : Mm) : Mm := (let μ2 : Mm := (e_X1_become 8 1 μ); (whl (fun s : Int32 × Mm => bd_X11_rest_13  s.1 s.2) (fun s : Int32 × Mm => (0, s.2)) FU (0, μ2)).2)
def p_X11_rest   (μ : Mm) : Prop := (p_X1_become 8 1 μ) ∧ (∀ μ2 : Mm, μ2 = (e_X1_become 8 1 μ) → whP (fun s : Int32 × Mm => bd_X11_rest_13  s.1 s.2) (fun s : Int32 × Mm => sd_X11_rest_13   s.1 s.2) FU (0, μ2))
set_option maxRecDepth 20000 in
set_option maxHeartbeats 4000000 in
theorem con_X11_rest {E : Ex} {Q : Option Value → Mm → Prop} {μ : Mm} (t : p_X11_rest   μ) (k : Q (some (.int (v_X11_rest  μ))) (e_X11_rest  μ)) : Con E 5 mX11_rest [rf E 0] μ Q := by
  refine Con_J (by decide +kernel) (Nat.le_of_ble_eq_true rfl) (fun G => ?_)
  unfold v_X11_rest e_X11_rest at k
  unfold p_X11_rest at t
  refine J_sub (ls' := [(0, rf E 0)]) [0] rfl ?_
  refine J_aload_n (dk okX11_rest 0 rfl) 0 rfl rfl ?_
  refine J_getR (dk okX11_rest 1 rfl) kfX11_16 ds_0 rfl ?_
  refine J_aload_n (dk okX11_rest 2 rfl) 0 rfl rfl ?_
  refine J_getR (dk okX11_rest 3 rfl) kfX11_12 ds_0 rfl ?_
  obtain ⟨s1, t⟩ := t
  refine J_callVv (As := [rf E 1]) (dk okX11_rest 4 rfl) ds_8 rfl vkX1_become lkX11_259 rfl rfl (Nat.le_of_ble_eq_true rfl) (by decide) (con_X1_become FloorAt_8 FloorAt_1 s1 ⟨rfl, ?_⟩)
  refine J_nm (fun μ2 eμ2 => ?_)
  have t := t μ2 eμ2
  refine J_iconst (v := 0) (dk okX11_rest 5 rfl) (by decide) ?_
  refine J_istore_n (ls' := [(1, _), (0, _)]) (dk okX11_rest 6 rfl) rfl (by decide) rfl ?_
  have s3 := t
  refine J_sub (ls' := [(0, _), (1, _)]) [1, 0] rfl ?_
  subst eμ2
  exact lw_X11_rest_13  s3 k
noncomputable def bd_X11_strongest_10  (x1 : Int32) (x2 : Int32) (x3 : Int32) (x4 : Int32) (μ : Mm) : (Int32 × Int32 × Int32 × Int32 × Mm) ⊕ (Int32 × Int32 × Int32 × Mm) := (if (μ.1 1 0) ≤ x4 then .inr (x1, x2, x3, μ) else (let μ7 : Mm := (if (v_X1_isOff 1 x4 μ) = 0 then ((e_X11_waysDecidedBy x4 μ)) else μ : Mm); .inl ((if (v_X1_isOff 1 x4 μ) = 0 then (if x1 = (-2) then x4 else (if (v_X11_waysDecidedBy x4 μ) ≤ x2 then x1 else x4 : Int32) : Int32) else x1 : Int32), (if (v_X1_isOff 1 x4 μ) = 0 then (if x1 = (-2) then (v_X11_waysDecidedBy x4 μ) else (if (v_X11_waysDecidedBy x4 μ) ≤ x2 then x2 else (v_X11_waysDecidedBy x4 μ) : Int32) : Int32) else x2 : Int32), (if (v_X1_isOff 1 x4 μ) = 0 then (x3 + (v_X11_waysDecidedBy x4 μ)) else x3 : Int32), (x4 + 1), μ7)))
def sd_X11_strongest_10   (x1 : Int32) (x2 : Int32) (x3 : Int32) (x4 : Int32) (μ : Mm) : Prop := (¬ ((μ.1 1 0) ≤ x4) → ((v_X1_isOff 1 x4 μ) = 0 → p_X11_waysDecidedBy x4 μ))
set_option maxRecDepth 20000 in
set_option maxHeartbeats 4000000 in
theorem lw_X11_strongest_10 {E : Ex} {G : Gx} {Q : Option Value → Mm → Prop} {x1 : Int32} {x2 : Int32} {x3 : Int32} {x4 : Int32} {μ : Mm}  (p : whP (fun s : Int32 × Int32 × Int32 × Int32 × Mm => bd_X11_strongest_10  s.1 s.2.1 s.2.2.1 s.2.2.2.1 s.2.2.2.2) (fun s : Int32 × Int32 × Int32 × Int32 × Mm => sd_X11_strongest_10   s.1 s.2.1 s.2.2.1 s.2.2.2.1 s.2.2.2.2) FU (x1, x2, x3, x4, μ)) (k : ∀ r : Int32 × Int32 × Int32 × Mm, r = whl (fun s : Int32 × Int32 × Int32 × Int32 × Mm => bd_X11_strongest_10  s.1 s.2.1 s.2.2.1 s.2.2.2.1 s.2.2.2.2) (fun s : Int32 × Int32 × Int32 × Int32 × Mm => (0, 0, 0, s.2.2.2.2)) FU (x1, x2, x3, x4, μ) → J E G 5 mX11_strongest Q 71 [(0, rf E 0), (1, .int (r.1)), (2, .int (r.2.1)), (3, .int (r.2.2.1))] [] (r.2.2.2)) : J E G 5 mX11_strongest Q 10 [(0, rf E 0), (1, .int x1), (2, .int x2), (3, .int x3), (4, .int x4)] [] μ := by
  refine J_whl (f := (fun s : Int32 × Int32 × Int32 × Int32 × Mm => bd_X11_strongest_10  s.1 s.2.1 s.2.2.1 s.2.2.2.1 s.2.2.2.2)) (dd := (fun s : Int32 × Int32 × Int32 × Int32 × Mm => (0, 0, 0, s.2.2.2.2))) (sd := (fun s : Int32 × Int32 × Int32 × Int32 × Mm => sd_X11_strongest_10   s.1 s.2.1 s.2.2.1 s.2.2.2.1 s.2.2.2.2)) (P := fun s : Int32 × Int32 × Int32 × Int32 × Mm => J E G 5 mX11_strongest Q 10 [(0, rf E 0), (1, .int (s.1)), (2, .int (s.2.1)), (3, .int (s.2.2.1)), (4, .int (s.2.2.2.1))] [] (s.2.2.2.2)) (R := fun r : Int32 × Int32 × Int32 × Mm => J E G 5 mX11_strongest Q 71 [(0, rf E 0), (1, .int (r.1)), (2, .int (r.2.1)), (3, .int (r.2.2.1))] [] (r.2.2.2)) ?_ FU (x1, x2, x3, x4, μ) p (k _ rfl)
  clear p k
  rintro ⟨x1, x2, x3, x4, μ⟩ t k1 k2
  dsimp only [sd_X11_strongest_10] at t
  have kb : ∀ (y1 : Int32) (y2 : Int32) (y3 : Int32) (y4 : Int32) (μ9 : Mm), bd_X11_strongest_10  x1 x2 x3 x4 μ = .inl (y1, y2, y3, y4, μ9) → J E G 5 mX11_strongest Q 10 [(0, rf E 0), (1, .int y1), (2, .int y2), (3, .int y3), (4, .int y4)] [] μ9 := fun y1 y2 y3 y4 μ9 h => k1 (y1, y2, y3, y4, μ9) h
  have kx : ∀ (y1 : Int32) (y2 : Int32) (y3 : Int32) (μ9 : Mm), bd_X11_strongest_10  x1 x2 x3 x4 μ = .inr (y1, y2, y3, μ9) → J E G 5 mX11_strongest Q 71 [(0, rf E 0), (1, .int y1), (2, .int y2), (3, .int y3)] [] μ9 := fun y1 y2 y3 μ9 h => k2 (y1, y2, y3, μ9) h
  clear k1 k2
  refine J_iload (dk okX11_strongest 8 rfl) 4 rfl ?_
  refine J_aload_n (dk okX11_strongest 9 rfl) 0 rfl rfl ?_
  refine J_getR (dk okX11_strongest 10 rfl) kfX11_12 ds_0 rfl ?_
  refine J_getI (dk okX11_strongest 11 rfl) kfX11_106 ds_1 rfl ?_
  refine J_icmp_ge (tgt := 71) (dk okX11_strongest 12 rfl) (by decide) (fun h1 => ?_) (fun h1 => ?_)
  · exact J_sub [0, 1, 2, 3] rfl (kx x1 x2 x3 μ (by unfold bd_X11_strongest_10; first | (simp only [if_pos h1]; done) | (simp only [if_pos h1]; rfl) | rfl))
  · have t := t h1
    refine J_aload_n (dk okX11_strongest 13 rfl) 0 rfl rfl ?_
    refine J_getR (dk okX11_strongest 14 rfl) kfX11_12 ds_0 rfl ?_
    refine J_iload (dk okX11_strongest 15 rfl) 4 rfl ?_
    refine J_callVi (As := [.int x4]) (dk okX11_strongest 16 rfl) ds_1 rfl vkX1_isOff lkX11_160 rfl rfl (Nat.le_of_ble_eq_true rfl) (by decide) (con_X1_isOff FloorAt_1 ⟨_, rfl, ?_⟩)
    have K8 : J E G 5 mX11_strongest Q 65 [(0, rf E 0), (1, .int (if (v_X1_isOff 1 x4 μ) = 0 then (if x1 = (-2) then x4 else (if (v_X11_waysDecidedBy x4 μ) ≤ x2 then x1 else x4 : Int32) : Int32) else x1 : Int32)), (2, .int (if (v_X1_isOff 1 x4 μ) = 0 then (if x1 = (-2) then (v_X11_waysDecidedBy x4 μ) else (if (v_X11_waysDecidedBy x4 μ) ≤ x2 then x2 else (v_X11_waysDecidedBy x4 μ) : Int32) : Int32) else x2 : Int32)), (3, .int (if (v_X1_isOff 1 x4 μ) = 0 then (x3 + (v_X11_waysDecidedBy x4 μ)) else x3 : Int32)), (4, .int x4)] [] (if (v_X1_isOff 1 x4 μ) = 0 then ((e_X11_waysDecidedBy x4 μ)) else μ : Mm) := by
      refine J_nm (fun μ7 eμ7 => ?_)
      refine J_iinc (v := (x4 + 1)) (ls' := [(4, _), (0, _), (1, _), (2, _), (3, _)]) (dk okX11_strongest 36 rfl) 4 rfl rfl (by decide) rfl ?_
      refine J_goto (tgt := 10) (dk okX11_strongest 37 rfl) (by decide) ?_
      exact J_sub [1, 2, 3, 4, 0] rfl (kb (if (v_X1_isOff 1 x4 μ) = 0 then (if x1 = (-2) then x4 else (if (v_X11_waysDecidedBy x4 μ) ≤ x2 then x1 else x4 : Int32) : Int32) else x1 : Int32) (if (v_X1_isOff 1 x4 μ) = 0 then (if x1 = (-2) then (v_X11_waysDecidedBy x4 μ) else (if (v_X11_waysDecidedBy x4 μ) ≤ x2 then x2 else (v_X11_waysDecidedBy x4 μ) : Int32) : Int32) else x2 : Int32) (if (v_X1_isOff 1 x4 μ) = 0 then (x3 + (v_X11_waysDecidedBy x4 μ)) else x3 : Int32) (x4 + 1) μ7 (by subst eμ7; unfold bd_X11_strongest_10; first | (simp only [if_neg h1]; done) | (simp only [if_neg h1]; rfl) | rfl))
    refine J_if_ne (tgt := 65) (dk okX11_strongest 17 rfl) (by decide) (fun h2 => ?_) (fun h2 => ?_)
    · refine J_sub (ls' := [(0, _), (1, _), (2, _), (3, _), (4, _)]) [0, 1, 2, 3, 4] rfl ?_
      (try simp only [if_neg h2] at K8 ⊢); exact K8
    · have t := t h2
      refine J_aload_n (dk okX11_strongest 18 rfl) 0 rfl rfl ?_
      refine J_iload (dk okX11_strongest 19 rfl) 4 rfl ?_
      have s3 := t
      refine J_callVi (As := [.int x4]) (dk okX11_strongest 20 rfl) ds_0 rfl vkX11_waysDecidedBy lkX11_308 rfl rfl (Nat.le_of_ble_eq_true rfl) (by decide) (con_X11_waysDecidedBy s3 ⟨_, rfl, ?_⟩)
      refine J_nm (fun μ4 eμ4 => ?_)
      refine J_istore (ls' := [(5, _), (0, _), (1, _), (2, _), (3, _), (4, _)]) (dk okX11_strongest 21 rfl) (by decide) rfl ?_
      refine J_iload_n (dk okX11_strongest 22 rfl) 4 rfl rfl ?_
      refine J_iload (dk okX11_strongest 23 rfl) 0 rfl ?_
      refine J_iadd (dk okX11_strongest 24 rfl) ?_
      refine J_istore_n (ls' := [(3, _), (5, _), (0, _), (1, _), (2, _), (4, _)]) (dk okX11_strongest 25 rfl) rfl (by decide) rfl ?_
      refine J_iload_n (dk okX11_strongest 26 rfl) 3 rfl rfl ?_
      refine J_bipush (v := (-2)) (dk okX11_strongest 27 rfl) (by decide) ?_
      refine J_icmp_eq (tgt := 59) (dk okX11_strongest 28 rfl) (by decide) (fun h5 => ?_) (fun h5 => ?_)
      · refine J_iload (dk okX11_strongest 32 rfl) 5 rfl ?_
        refine J_istore_n (ls' := [(1, _), (3, _), (5, _), (0, _), (2, _), (4, _)]) (dk okX11_strongest 33 rfl) rfl (by decide) rfl ?_
        refine J_iload (dk okX11_strongest 34 rfl) 2 rfl ?_
        refine J_istore_n (ls' := [(2, _), (1, _), (3, _), (5, _), (0, _), (4, _)]) (dk okX11_strongest 35 rfl) rfl (by decide) rfl ?_
        subst eμ4
        refine J_sub (ls' := [(0, _), (1, _), (2, _), (3, _), (4, _)]) [4, 1, 0, 2, 5] rfl ?_
        (try simp only [if_pos h2, if_pos h5] at K8 ⊢); exact K8
      · refine J_iload (dk okX11_strongest 29 rfl) 1 rfl ?_
        refine J_iload_n (dk okX11_strongest 30 rfl) 4 rfl rfl ?_
        refine J_icmp_le (tgt := 65) (dk okX11_strongest 31 rfl) (by decide) (fun h6 => ?_) (fun h6 => ?_)
        · subst eμ4
          refine J_sub (ls' := [(0, _), (1, _), (2, _), (3, _), (4, _)]) [2, 3, 4, 0, 5] rfl ?_
          (try simp only [if_pos h2, if_neg h5, if_pos h6] at K8 ⊢); exact K8
        · refine J_iload (dk okX11_strongest 32 rfl) 5 rfl ?_
          refine J_istore_n (ls' := [(1, _), (3, _), (5, _), (0, _), (2, _), (4, _)]) (dk okX11_strongest 33 rfl) rfl (by decide) rfl ?_
          refine J_iload (dk okX11_strongest 34 rfl) 2 rfl ?_
          refine J_istore_n (ls' := [(2, _), (1, _), (3, _), (5, _), (0, _), (4, _)]) (dk okX11_strongest 35 rfl) rfl (by decide) rfl ?_
          subst eμ4
          refine J_sub (ls' := [(0, _), (1, _), (2, _), (3, _), (4, _)]) [4, 1, 0, 2, 5] rfl ?_
          (try simp only [if_pos h2, if_neg h5, if_neg h6] at K8 ⊢); exact K8
/-- VotingFloor.strongest()I -/
noncomputable def v_X11_strongest  (μ : Mm) : Int32 := (let r2 : Int32 × Int32 × Int32 × Mm := whl (fun s : Int32 × Int32 × Int32 × Int32 × Mm => bd_X11_strongest_10  s.1 s.2.1 s.2.2.1 s.2.2.2.1 s.2.2.2.2) (fun s : Int32 × Int32 × Int32 × Int32 × Mm => (0, 0, 0, s.2.2.2.2)) FU ((-2), 0, 0, 0, μ); (r2.1))
noncomputable def e_X11_strongest  (μ : Mm) : Mm := (let r2 : Int32 × Int32 × Int32 × Mm := whl (fun s : Int32 × Int32 × Int32 × Int32 × Mm => bd_X11_strongest_10  s.1 s.2.1 s.2.2.1 s.2.2.2.1 s.2.2.2.2) (fun s : Int32 × Int32 × Int32 × Int32 × Mm => (0, 0, 0, s.2.2.2.2)) FU ((-2), 0, 0, 0, μ); (let μ9 : Mm := (if (r2.1) = (-2) then (r2.2.2.2) else ((e_X10_add (Int32.toInt64 (r2.2.2.1)) ((e_X10_add (Int32.toInt64 (r2.2.1)) ((e_X10_begin  (r2.2.2.2))))))) : Mm); μ9))
def p_X11_strongest   (μ : Mm) : Prop := (whP (fun s : Int32 × Int32 × Int32 × Int32 × Mm => bd_X11_strongest_10  s.1 s.2.1 s.2.2.1 s.2.2.2.1 s.2.2.2.2) (fun s : Int32 × Int32 × Int32 × Int32 × Mm => sd_X11_strongest_10   s.1 s.2.1 s.2.2.1 s.2.2.2.1 s.2.2.2.2) FU ((-2), 0, 0, 0, μ)) ∧ (∀ r2 : Int32 × Int32 × Int32 × Mm, r2 = whl (fun s : Int32 × Int32 × Int32 × Int32 × Mm => bd_X11_strongest_10  s.1 s.2.1 s.2.2.1 s.2.2.2.1 s.2.2.2.2) (fun s : Int32 × Int32 × Int32 × Int32 × Mm => (0, 0, 0, s.2.2.2.2)) FU ((-2), 0, 0, 0, μ) → (¬ ((r2.1) = (-2)) → (∀ μ4 : Mm, μ4 = (e_X10_begin  (r2.2.2.2)) → (p_X10_add (Int32.toInt64 (r2.2.1)) μ4) ∧ (∀ μ6 : Mm, μ6 = (e_X10_add (Int32.toInt64 (r2.2.1)) μ4) → p_X10_add (Int32.toInt64 (r2.2.2.1)) μ6))))
set_option maxRecDepth 20000 in
set_option maxHeartbeats 4000000 in
theorem con_X11_strongest {E : Ex} {Q : Option Value → Mm → Prop} {μ : Mm} (t : p_X11_strongest   μ) (k : Q (some (.int (v_X11_strongest  μ))) (e_X11_strongest  μ)) : Con E 5 mX11_strongest [rf E 0] μ Q := by
  refine Con_J (by decide +kernel) (Nat.le_of_ble_eq_true rfl) (fun G => ?_)
  unfold v_X11_strongest e_X11_strongest at k
  unfold p_X11_strongest at t
  refine J_sub (ls' := [(0, rf E 0)]) [0] rfl ?_
  refine J_bipush (v := (-2)) (dk okX11_strongest 0 rfl) (by decide) ?_
  refine J_istore_n (ls' := [(1, _), (0, _)]) (dk okX11_strongest 1 rfl) rfl (by decide) rfl ?_
  refine J_iconst (v := 0) (dk okX11_strongest 2 rfl) (by decide) ?_
  refine J_istore_n (ls' := [(2, _), (1, _), (0, _)]) (dk okX11_strongest 3 rfl) rfl (by decide) rfl ?_
  refine J_iconst (v := 0) (dk okX11_strongest 4 rfl) (by decide) ?_
  refine J_istore_n (ls' := [(3, _), (2, _), (1, _), (0, _)]) (dk okX11_strongest 5 rfl) rfl (by decide) rfl ?_
  refine J_iconst (v := 0) (dk okX11_strongest 6 rfl) (by decide) ?_
  refine J_istore (ls' := [(4, _), (3, _), (2, _), (1, _), (0, _)]) (dk okX11_strongest 7 rfl) (by decide) rfl ?_
  obtain ⟨s1, t⟩ := t
  refine J_sub (ls' := [(0, _), (1, _), (2, _), (3, _), (4, _)]) [4, 3, 2, 1, 0] rfl ?_
  refine lw_X11_strongest_10  s1 (fun r2 er2 => ?_)
  have t := t r2 er2
  refine J_iload_n (dk okX11_strongest 38 rfl) 1 rfl rfl ?_
  refine J_bipush (v := (-2)) (dk okX11_strongest 39 rfl) (by decide) ?_
  have K10 : J E G 5 mX11_strongest Q 102 [(1, .int (r2.1))] [] (if (r2.1) = (-2) then (r2.2.2.2) else ((e_X10_add (Int32.toInt64 (r2.2.2.1)) ((e_X10_add (Int32.toInt64 (r2.2.1)) ((e_X10_begin  (r2.2.2.2))))))) : Mm) := by
    refine J_nm (fun μ9 eμ9 => ?_)
    refine J_iload_n (dk okX11_strongest 54 rfl) 0 rfl rfl ?_
    subst eμ9 er2
    exact J_iret (dk okX11_strongest 55 rfl) rfl k
  refine J_icmp_eq (tgt := 102) (dk okX11_strongest 40 rfl) (by decide) (fun h3 => ?_) (fun h3 => ?_)
  · refine J_sub (ls' := [(1, _)]) [1] rfl ?_
    (try simp only [if_pos h3] at K10 ⊢); exact K10
  · have t := t h3
    refine J_aload_n (dk okX11_strongest 41 rfl) 0 rfl rfl ?_
    refine J_getR (dk okX11_strongest 42 rfl) kfX11_39 ds_0 rfl ?_
    refine J_callVv (As := []) (dk okX11_strongest 43 rfl) ds_27 rfl vkX10_begin lkX11_196 rfl rfl (Nat.le_of_ble_eq_true rfl) (by decide) (con_X10_begin  ⟨rfl, ?_⟩)
    refine J_nm (fun μ4 eμ4 => ?_)
    have t := t μ4 eμ4
    refine J_aload_n (dk okX11_strongest 44 rfl) 0 rfl rfl ?_
    refine J_getR (dk okX11_strongest 45 rfl) kfX11_39 ds_0 rfl ?_
    refine J_iload_n (dk okX11_strongest 46 rfl) 2 rfl rfl ?_
    refine J_i2l (dk okX11_strongest 47 rfl) ?_
    obtain ⟨s5, t⟩ := t
    refine J_callVv (As := [.long (Int32.toInt64 (r2.2.1))]) (dk okX11_strongest 48 rfl) ds_27 rfl vkX10_add lkX11_199 rfl rfl (Nat.le_of_ble_eq_true rfl) (by decide) (con_X10_add s5 ⟨rfl, ?_⟩)
    refine J_nm (fun μ6 eμ6 => ?_)
    have t := t μ6 eμ6
    refine J_aload_n (dk okX11_strongest 49 rfl) 0 rfl rfl ?_
    refine J_getR (dk okX11_strongest 50 rfl) kfX11_39 ds_0 rfl ?_
    refine J_iload_n (dk okX11_strongest 51 rfl) 3 rfl rfl ?_
    refine J_i2l (dk okX11_strongest 52 rfl) ?_
    have s7 := t
    refine J_callVv (As := [.long (Int32.toInt64 (r2.2.2.1))]) (dk okX11_strongest 53 rfl) ds_27 rfl vkX10_add lkX11_199 rfl rfl (Nat.le_of_ble_eq_true rfl) (by decide) (con_X10_add s7 ⟨rfl, ?_⟩)
    refine J_nm (fun μ8 eμ8 => ?_)
    subst eμ8 eμ6 eμ4
    refine J_sub (ls' := [(1, _)]) [1] rfl ?_
    (try simp only [if_neg h3] at K10 ⊢); exact K10

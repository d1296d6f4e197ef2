noncomputable def bd_X11_swings_24  (x1 : Int32) (x2 : Int32) (μ : Mm) : (Int32 × Int32 × Mm) ⊕ (Int32 × Mm) := (if 60 < x2 then .inr ((-2), μ) else (let μ3 : Mm := (e_X1_pass 8 15 μ); (if (v_X11_direction (v_X1_moment 8 μ3)) = x1 then .inl (x1, (x2 + 1), μ3) else (let μ6 : Mm := (e_X10_begin  μ3); (let μ8 : Mm := (e_X10_add (Int32.toInt64 (1 + (v_X11_direction (v_X1_moment 8 μ3)))) μ6); .inr (x2, μ8))))))
def sd_X11_swings_24   (x1 : Int32) (x2 : Int32) (μ : Mm) : Prop := (¬ (60 < x2) → (p_X1_pass 8 15 μ) ∧ (∀ μ3 : Mm, μ3 = (e_X1_pass 8 15 μ) → (p_X1_moment 8 μ3) ∧ (¬ ((v_X11_direction (v_X1_moment 8 μ3)) = x1) → (∀ μ6 : Mm, μ6 = (e_X10_begin  μ3) → p_X10_add (Int32.toInt64 (1 + (v_X11_direction (v_X1_moment 8 μ3)))) μ6))))
set_option maxRecDepth 20000 in
set_option maxHeartbeats 4000000 in
theorem lw_X11_swings_24 {E : Ex} {G : Gx} {Q : Option Value → Mm → Prop} {x1 : Int32} {x2 : Int32} {μ : Mm}  (p : whP (fun s : Int32 × Int32 × Mm => bd_X11_swings_24  s.1 s.2.1 s.2.2) (fun s : Int32 × Int32 × Mm => sd_X11_swings_24   s.1 s.2.1 s.2.2) FU (x1, x2, μ)) (k : Q (some (.int (whl (fun s : Int32 × Int32 × Mm => bd_X11_swings_24  s.1 s.2.1 s.2.2) (fun s : Int32 × Int32 × Mm => (0, s.2.2)) FU (x1, x2, μ)).1)) (whl (fun s : Int32 × Int32 × Mm => bd_X11_swings_24  s.1 s.2.1 s.2.2) (fun s : Int32 × Int32 × Mm => (0, s.2.2)) FU (x1, x2, μ)).2) : J E G 5 mX11_swings Q 24 [(0, rf E 0), (1, .int x1), (2, .int x2)] [] μ := by
  refine J_whl (f := (fun s : Int32 × Int32 × Mm => bd_X11_swings_24  s.1 s.2.1 s.2.2)) (dd := (fun s : Int32 × Int32 × Mm => (0, s.2.2))) (sd := (fun s : Int32 × Int32 × Mm => sd_X11_swings_24   s.1 s.2.1 s.2.2)) (P := fun s : Int32 × Int32 × Mm => J E G 5 mX11_swings Q 24 [(0, rf E 0), (1, .int (s.1)), (2, .int (s.2.1))] [] (s.2.2)) (R := fun r : Int32 × Mm => Q (some (.int (r).1)) (r).2) ?_ FU (x1, x2, μ) p k
  clear p k
  rintro ⟨x1, x2, μ⟩ t k1 k2
  dsimp only [sd_X11_swings_24] at t
  have kb : ∀ (y1 : Int32) (y2 : Int32) (μ9 : Mm), bd_X11_swings_24  x1 x2 μ = .inl (y1, y2, μ9) → J E G 5 mX11_swings Q 24 [(0, rf E 0), (1, .int y1), (2, .int y2)] [] μ9 := fun y1 y2 μ9 h => k1 (y1, y2, μ9) h
  have kx : ∀ (y : Int32) (μ9 : Mm), bd_X11_swings_24  x1 x2 μ = .inr (y, μ9) → Q (some (.int y)) μ9 := fun y μ9 h => k2 (y, μ9) h
  clear k1 k2
  refine J_iload_n (dk okX11_swings 12 rfl) 2 rfl rfl ?_
  refine J_bipush (v := 60) (dk okX11_swings 13 rfl) (by decide) ?_
  refine J_icmp_gt (tgt := 84) (dk okX11_swings 14 rfl) (by decide) (fun h1 => ?_) (fun h1 => ?_)
  · refine J_bipush (v := (-2)) (dk okX11_swings 43 rfl) (by decide) ?_
    exact J_iret (dk okX11_swings 44 rfl) rfl (kx (-2) μ (by unfold bd_X11_swings_24; first | (simp only [if_pos h1]; done) | (simp only [if_pos h1]; rfl) | rfl))
  · have t := t h1
    refine J_aload_n (dk okX11_swings 15 rfl) 0 rfl rfl ?_
    refine J_getR (dk okX11_swings 16 rfl) kfX11_16 ds_0 rfl ?_
    refine J_aload_n (dk okX11_swings 17 rfl) 0 rfl rfl ?_
    refine J_getR (dk okX11_swings 18 rfl) kfX11_22 ds_0 rfl ?_
    obtain ⟨s2, t⟩ := t
    refine J_callVi (As := [rf E 15]) (dk okX11_swings 19 rfl) ds_8 rfl vkX1_pass lkX11_268 rfl rfl (Nat.le_of_ble_eq_true rfl) (by decide) (con_X1_pass FloorAt_8 RuleAt_15 s2 ⟨_, rfl, ?_⟩)
    refine J_nm (fun μ3 eμ3 => ?_)
    have t := t μ3 eμ3
    refine J_pop (dk okX11_swings 20 rfl) rfl ?_
    refine J_aload_n (dk okX11_swings 21 rfl) 0 rfl rfl ?_
    refine J_getR (dk okX11_swings 22 rfl) kfX11_16 ds_0 rfl ?_
    obtain ⟨s4, t⟩ := t
    refine J_callVi (As := []) (dk okX11_swings 23 rfl) ds_8 rfl vkX1_moment lkX11_163 rfl rfl (Nat.le_of_ble_eq_true rfl) (by decide) (con_X1_moment FloorAt_8 s4 ⟨_, rfl, ?_⟩)
    refine J_callSi (As := [.int (v_X1_moment 8 μ3)]) (dk okX11_swings 24 rfl) skX11_direction lkX11_256 rfl rfl (Nat.le_of_ble_eq_true rfl) (by decide) (con_X11_direction  ⟨_, rfl, ?_⟩)
    refine J_istore_n (ls' := [(3, _), (0, _), (1, _), (2, _)]) (dk okX11_swings 25 rfl) rfl (by decide) rfl ?_
    refine J_iload_n (dk okX11_swings 26 rfl) 0 rfl rfl ?_
    refine J_iload_n (dk okX11_swings 27 rfl) 2 rfl rfl ?_
    refine J_icmp_eq (tgt := 78) (dk okX11_swings 28 rfl) (by decide) (fun h5 => ?_) (fun h5 => ?_)
    · refine J_iinc (v := (x2 + 1)) (ls' := [(2, _), (3, _), (0, _), (1, _)]) (dk okX11_swings 41 rfl) 3 rfl rfl (by decide) rfl ?_
      refine J_goto (tgt := 24) (dk okX11_swings 42 rfl) (by decide) ?_
      exact J_sub [2, 3, 0] rfl (kb x1 (x2 + 1) μ3 (by subst eμ3; unfold bd_X11_swings_24; first | (simp only [if_neg h1, if_pos h5]; done) | (simp only [if_neg h1, if_pos h5]; rfl) | rfl))
    · have t := t h5
      refine J_aload_n (dk okX11_swings 29 rfl) 1 rfl rfl ?_
      refine J_getR (dk okX11_swings 30 rfl) kfX11_39 ds_0 rfl ?_
      refine J_callVv (As := []) (dk okX11_swings 31 rfl) ds_27 rfl vkX10_begin lkX11_196 rfl rfl (Nat.le_of_ble_eq_true rfl) (by decide) (con_X10_begin  ⟨rfl, ?_⟩)
      refine J_nm (fun μ6 eμ6 => ?_)
      have t := t μ6 eμ6
      refine J_aload_n (dk okX11_swings 32 rfl) 1 rfl rfl ?_
      refine J_getR (dk okX11_swings 33 rfl) kfX11_39 ds_0 rfl ?_
      refine J_iconst (v := 1) (dk okX11_swings 34 rfl) (by decide) ?_
      refine J_iload_n (dk okX11_swings 35 rfl) 0 rfl rfl ?_
      refine J_iadd (dk okX11_swings 36 rfl) ?_
      refine J_i2l (dk okX11_swings 37 rfl) ?_
      have s7 := t
      refine J_callVv (As := [.long (Int32.toInt64 (1 + (v_X11_direction (v_X1_moment 8 μ3))))]) (dk okX11_swings 38 rfl) ds_27 rfl vkX10_add lkX11_199 rfl rfl (Nat.le_of_ble_eq_true rfl) (by decide) (con_X10_add s7 ⟨rfl, ?_⟩)
      refine J_nm (fun μ8 eμ8 => ?_)
      refine J_iload_n (dk okX11_swings 39 rfl) 3 rfl rfl ?_
      exact J_iret (dk okX11_swings 40 rfl) rfl (kx x2 μ8 (by subst eμ8 eμ6 eμ3; unfold bd_X11_swings_24; first | (simp only [if_neg h1, if_neg h5]; done) | (simp only [if_neg h1, if_neg h5]; rfl) | rfl))
/-- VotingFloor.swings()I -/
noncomputable def v_X11_swings  (μ : Mm) : Int32 := (let μ2 : Mm := (e_X1_become 8 1 μ); (whl (fun s : Int32 × Int32 × Mm => bd_X11_swings_24  s.1 s.2.1 s.2.2) (fun s : Int32 × Int32 × Mm => (0, s.2.2)) FU ((v_X11_direction (v_X1_moment 8 μ2)), 1, μ2)).1)
noncomputable def e_X11_swings  (μ : Mm) : Mm := (let μ2 : Mm := (e_X1_become 8 1 μ); (whl (fun s : Int32 × Int32 × Mm => bd_X11_swings_24  s.1 s.2.1 s.2.2) (fun s : Int32 × Int32 × Mm => (0, s.2.2)) FU ((v_X11_direction (v_X1_moment 8 μ2)), 1, μ2)).2)
def p_X11_swings   (μ : Mm) : Prop := (p_X1_become 8 1 μ) ∧ (∀ μ2 : Mm, μ2 = (e_X1_become 8 1 μ) → (p_X1_moment 8 μ2) ∧ whP (fun s : Int32 × Int32 × Mm => bd_X11_swings_24  s.1 s.2.1 s.2.2) (fun s : Int32 × Int32 × Mm => sd_X11_swings_24   s.1 s.2.1 s.2.2) FU ((v_X11_direction (v_X1_moment 8 μ2)), 1, μ2))
set_option maxRecDepth 20000 in
set_option maxHeartbeats 4000000 in
theorem con_X11_swings {E : Ex} {Q : Option Value → Mm → Prop} {μ : Mm} (t : p_X11_swings   μ) (k : Q (some (.int (v_X11_swings  μ))) (e_X11_swings  μ)) : Con E 5 mX11_swings [rf E 0] μ Q := by
  refine Con_J (by decide +kernel) (Nat.le_of_ble_eq_true rfl) (fun G => ?_)
  unfold v_X11_swings e_X11_swings at k
  unfold p_X11_swings at t
  refine J_sub (ls' := [(0, rf E 0)]) [0] rfl ?_
  refine J_aload_n (dk okX11_swings 0 rfl) 0 rfl rfl ?_
  refine J_getR (dk okX11_swings 1 rfl) kfX11_16 ds_0 rfl ?_
  refine J_aload_n (dk okX11_swings 2 rfl) 0 rfl rfl ?_
  refine J_getR (dk okX11_swings 3 rfl) kfX11_12 ds_0 rfl ?_
  obtain ⟨s1, t⟩ := t
  refine J_callVv (As := [rf E 1]) (dk okX11_swings 4 rfl) ds_8 rfl vkX1_become lkX11_259 rfl rfl (Nat.le_of_ble_eq_true rfl) (by decide) (con_X1_become FloorAt_8 FloorAt_1 s1 ⟨rfl, ?_⟩)
  refine J_nm (fun μ2 eμ2 => ?_)
  have t := t μ2 eμ2
  refine J_aload_n (dk okX11_swings 5 rfl) 0 rfl rfl ?_
  refine J_getR (dk okX11_swings 6 rfl) kfX11_16 ds_0 rfl ?_
  obtain ⟨s3, t⟩ := t
  refine J_callVi (As := []) (dk okX11_swings 7 rfl) ds_8 rfl vkX1_moment lkX11_163 rfl rfl (Nat.le_of_ble_eq_true rfl) (by decide) (con_X1_moment FloorAt_8 s3 ⟨_, rfl, ?_⟩)
  refine J_callSi (As := [.int (v_X1_moment 8 μ2)]) (dk okX11_swings 8 rfl) skX11_direction lkX11_256 rfl rfl (Nat.le_of_ble_eq_true rfl) (by decide) (con_X11_direction  ⟨_, rfl, ?_⟩)
  refine J_istore_n (ls' := [(1, _), (0, _)]) (dk okX11_swings 9 rfl) rfl (by decide) rfl ?_
  refine J_iconst (v := 1) (dk okX11_swings 10 rfl) (by decide) ?_
  refine J_istore_n (ls' := [(2, _), (1, _), (0, _)]) (dk okX11_swings 11 rfl) rfl (by decide) rfl ?_
  have s4 := t
  refine J_sub (ls' := [(0, _), (1, _), (2, _)]) [2, 1, 0] rfl ?_
  subst eμ2
  exact lw_X11_swings_24  s4 k
noncomputable def bd_X11_wall_23  (x1 : Int32) (μ : Mm) : (Int32 × Mm) ⊕ (Mm) := (if (μ.1 1 0) ≤ x1 then .inr μ else (let μ5 : Mm := (upI μ 34 (Int32.toNatClampNeg x1) ((v_X1_load 1 x1 μ) * (9 - (μ.1 4 (Int32.toNatClampNeg x1))))); .inl ((x1 + 1), μ5)))
def sd_X11_wall_23   (x1 : Int32) (μ : Mm) : Prop := (¬ ((μ.1 1 0) ≤ x1) → (p_X1_load 1 x1 μ) ∧ (vp_in x1 7) ∧ vp_in x1 7)
set_option maxRecDepth 20000 in
set_option maxHeartbeats 4000000 in
theorem lw_X11_wall_23 {E : Ex} {G : Gx} {Q : Option Value → Mm → Prop} {x1 : Int32} {μ : Mm}  (p : whP (fun s : Int32 × Mm => bd_X11_wall_23  s.1 s.2) (fun s : Int32 × Mm => sd_X11_wall_23   s.1 s.2) FU (x1, μ)) (k : ∀ r : Mm, r = whl (fun s : Int32 × Mm => bd_X11_wall_23  s.1 s.2) (fun s : Int32 × Mm => s.2) FU (x1, μ) → J E G 5 mX11_wall Q 70 [(0, rf E 0)] [] r) : J E G 5 mX11_wall Q 23 [(0, rf E 0), (1, .int x1)] [] μ := by
  refine J_whl (f := (fun s : Int32 × Mm => bd_X11_wall_23  s.1 s.2)) (dd := (fun s : Int32 × Mm => s.2)) (sd := (fun s : Int32 × Mm => sd_X11_wall_23   s.1 s.2)) (P := fun s : Int32 × Mm => J E G 5 mX11_wall Q 23 [(0, rf E 0), (1, .int (s.1))] [] (s.2)) (R := fun r : Mm => J E G 5 mX11_wall Q 70 [(0, rf E 0)] [] r) ?_ FU (x1, μ) p (k _ rfl)
  clear p k
  rintro ⟨x1, μ⟩ t k1 k2
  dsimp only [sd_X11_wall_23] at t
  have kb : ∀ (y1 : Int32) (μ9 : Mm), bd_X11_wall_23  x1 μ = .inl (y1, μ9) → J E G 5 mX11_wall Q 23 [(0, rf E 0), (1, .int y1)] [] μ9 := fun y1 μ9 h => k1 (y1, μ9) h
  have kx : ∀  (μ9 : Mm), bd_X11_wall_23  x1 μ = .inr μ9 → J E G 5 mX11_wall Q 70 [(0, rf E 0)] [] μ9 := fun  μ9 h => k2 μ9 h
  clear k1 k2
  refine J_iload_n (dk okX11_wall 11 rfl) 1 rfl rfl ?_
  refine J_aload_n (dk okX11_wall 12 rfl) 0 rfl rfl ?_
  refine J_getR (dk okX11_wall 13 rfl) kfX11_12 ds_0 rfl ?_
  refine J_getI (dk okX11_wall 14 rfl) kfX11_106 ds_1 rfl ?_
  refine J_icmp_ge (tgt := 70) (dk okX11_wall 15 rfl) (by decide) (fun h1 => ?_) (fun h1 => ?_)
  · exact J_sub [0] rfl (kx μ (by unfold bd_X11_wall_23; first | (simp only [if_pos h1]; done) | (simp only [if_pos h1]; rfl) | rfl))
  · have t := t h1
    refine J_aload_n (dk okX11_wall 16 rfl) 0 rfl rfl ?_
    refine J_getR (dk okX11_wall 17 rfl) kfX11_53 ds_0 rfl ?_
    refine J_getR (dk okX11_wall 18 rfl) kfX11_291 ds_33 rfl ?_
    refine J_iload_n (dk okX11_wall 19 rfl) 1 rfl rfl ?_
    refine J_aload_n (dk okX11_wall 20 rfl) 0 rfl rfl ?_
    refine J_getR (dk okX11_wall 21 rfl) kfX11_12 ds_0 rfl ?_
    refine J_iload_n (dk okX11_wall 22 rfl) 1 rfl rfl ?_
    obtain ⟨s2, t⟩ := t
    refine J_callVi (As := [.int x1]) (dk okX11_wall 23 rfl) ds_1 rfl vkX1_load lkX11_285 rfl rfl (Nat.le_of_ble_eq_true rfl) (by decide) (con_X1_load FloorAt_1 s2 ⟨_, rfl, ?_⟩)
    refine J_bipush (v := 9) (dk okX11_wall 24 rfl) (by decide) ?_
    refine J_aload_n (dk okX11_wall 25 rfl) 0 rfl rfl ?_
    refine J_getR (dk okX11_wall 26 rfl) kfX11_12 ds_0 rfl ?_
    refine J_getR (dk okX11_wall 27 rfl) kfX11_154 ds_1 rfl ?_
    refine J_iload_n (dk okX11_wall 28 rfl) 1 rfl rfl ?_
    obtain ⟨s3, t⟩ := t
    refine J_iald (dk okX11_wall 29 rfl) ds_4 s3 ?_
    refine J_isub (dk okX11_wall 30 rfl) ?_
    refine J_imul (dk okX11_wall 31 rfl) ?_
    have s4 := t
    refine J_iast (dk okX11_wall 32 rfl) ds_34 s4 ?_
    refine J_nm (fun μ5 eμ5 => ?_)
    refine J_iinc (v := (x1 + 1)) (ls' := [(1, _), (0, _)]) (dk okX11_wall 33 rfl) 1 rfl rfl (by decide) rfl ?_
    refine J_goto (tgt := 23) (dk okX11_wall 34 rfl) (by decide) ?_
    exact J_sub [1, 0] rfl (kb (x1 + 1) μ5 (by subst eμ5; unfold bd_X11_wall_23; first | (simp only [if_neg h1]; done) | (simp only [if_neg h1]; rfl) | rfl))
/-- VotingFloor.wall()I -/
noncomputable def v_X11_wall  (μ : Mm) : Int32 := (let μ2 : Mm := (e_X8_start (v_X1_present 1 μ) (v_X1_moment 1 μ) μ); (let r4 : Mm := whl (fun s : Int32 × Mm => bd_X11_wall_23  s.1 s.2) (fun s : Int32 × Mm => s.2) FU (0, μ2); (v_X11_tellFewest 0 r4)))
noncomputable def e_X11_wall  (μ : Mm) : Mm := (let μ2 : Mm := (e_X8_start (v_X1_present 1 μ) (v_X1_moment 1 μ) μ); (let r4 : Mm := whl (fun s : Int32 × Mm => bd_X11_wall_23  s.1 s.2) (fun s : Int32 × Mm => s.2) FU (0, μ2); (let μ6 : Mm := (e_X11_tellFewest 0 r4); μ6)))
def p_X11_wall   (μ : Mm) : Prop := (p_X1_moment 1 μ) ∧ (∀ μ2 : Mm, μ2 = (e_X8_start (v_X1_present 1 μ) (v_X1_moment 1 μ) μ) → (whP (fun s : Int32 × Mm => bd_X11_wall_23  s.1 s.2) (fun s : Int32 × Mm => sd_X11_wall_23   s.1 s.2) FU (0, μ2)) ∧ (∀ r4 : Mm, r4 = whl (fun s : Int32 × Mm => bd_X11_wall_23  s.1 s.2) (fun s : Int32 × Mm => s.2) FU (0, μ2) → p_X11_tellFewest 0 r4))
set_option maxRecDepth 20000 in
set_option maxHeartbeats 4000000 in
theorem con_X11_wall {E : Ex} {Q : Option Value → Mm → Prop} {μ : Mm} (t : p_X11_wall   μ) (k : Q (some (.int (v_X11_wall  μ))) (e_X11_wall  μ)) : Con E 5 mX11_wall [rf E 0] μ Q := by
  refine Con_J (by decide +kernel) (Nat.le_of_ble_eq_true rfl) (fun G => ?_)
  unfold v_X11_wall e_X11_wall at k
  unfold p_X11_wall at t
  refine J_sub (ls' := [(0, rf E 0)]) [0] rfl ?_
  refine J_aload_n (dk okX11_wall 0 rfl) 0 rfl rfl ?_
  refine J_getR (dk okX11_wall 1 rfl) kfX11_53 ds_0 rfl ?_
  refine J_aload_n (dk okX11_wall 2 rfl) 0 rfl rfl ?_
  refine J_getR (dk okX11_wall 3 rfl) kfX11_12 ds_0 rfl ?_
  refine J_callVi (As := []) (dk okX11_wall 4 rfl) ds_1 rfl vkX1_present lkX11_271 rfl rfl (Nat.le_of_ble_eq_true rfl) (by decide) (con_X1_present FloorAt_1 ⟨_, rfl, ?_⟩)
  refine J_aload_n (dk okX11_wall 5 rfl) 0 rfl rfl ?_
  refine J_getR (dk okX11_wall 6 rfl) kfX11_12 ds_0 rfl ?_
  obtain ⟨s1, t⟩ := t
  refine J_callVi (As := []) (dk okX11_wall 7 rfl) ds_1 rfl vkX1_moment lkX11_163 rfl rfl (Nat.le_of_ble_eq_true rfl) (by decide) (con_X1_moment FloorAt_1 s1 ⟨_, rfl, ?_⟩)
  refine J_callVv (As := [.int (v_X1_present 1 μ), .int (v_X1_moment 1 μ)]) (dk okX11_wall 8 rfl) ds_33 rfl vkX8_start lkX11_288 rfl rfl (Nat.le_of_ble_eq_true rfl) (by decide) (con_X8_start  ⟨rfl, ?_⟩)
  refine J_nm (fun μ2 eμ2 => ?_)
  have t := t μ2 eμ2
  refine J_iconst (v := 0) (dk okX11_wall 9 rfl) (by decide) ?_
  refine J_istore_n (ls' := [(1, _), (0, _)]) (dk okX11_wall 10 rfl) rfl (by decide) rfl ?_
  obtain ⟨s3, t⟩ := t
  refine J_sub (ls' := [(0, _), (1, _)]) [1, 0] rfl ?_
  refine lw_X11_wall_23  s3 (fun r4 er4 => ?_)
  have t := t r4 er4
  refine J_aload_n (dk okX11_wall 35 rfl) 0 rfl rfl ?_
  refine J_iconst (v := 0) (dk okX11_wall 36 rfl) (by decide) ?_
  have s5 := t
  refine J_callVi (As := [.int 0]) (dk okX11_wall 37 rfl) ds_0 rfl vkX11_tellFewest lkX11_294 rfl rfl (Nat.le_of_ble_eq_true rfl) (by decide) (con_X11_tellFewest s5 ⟨_, rfl, ?_⟩)
  refine J_nm (fun μ6 eμ6 => ?_)
  subst eμ6 er4 eμ2
  exact J_iret (dk okX11_wall 38 rfl) rfl k
noncomputable def bd_X12_bears_21  (x1 : Int32) (x2 : Int32) (μ : Mm) : (Int32 × Int32 × Mm) ⊕ (Int32 × Mm) := (if 9 < x2 then .inr ((-2), μ) else (let μ3 : Mm := (upI μ 53 (Int32.toNatClampNeg (14 + x1)) x2); (if (v_X12_moment 53 μ3) ≤ 0 then .inl (x1, (x2 + 1), μ3) else (let μ6 : Mm := (upI μ3 49 1 0); (let μ9 : Mm := (e_X12_enters (Int32.toInt64 (2000 + (v_X12_moment 53 μ6))) μ6); .inr (x2, μ9))))))
def sd_X12_bears_21   (x1 : Int32) (x2 : Int32) (μ : Mm) : Prop := (¬ (9 < x2) → (vp_in (14 + x1) 24) ∧ (∀ μ3 : Mm, μ3 = (upI μ 53 (Int32.toNatClampNeg (14 + x1)) x2) → (p_X12_moment 53 μ3) ∧ (¬ ((v_X12_moment 53 μ3) ≤ 0) → (∀ μ6 : Mm, μ6 = (upI μ3 49 1 0) → (p_X12_moment 53 μ6) ∧ p_X12_enters (Int32.toInt64 (2000 + (v_X12_moment 53 μ6))) μ6))))
set_option maxRecDepth 20000 in
set_option maxHeartbeats 4000000 in
theorem lw_X12_bears_21 {E : Ex} {G : Gx} {Q : Option Value → Mm → Prop} {x1 : Int32} {x2 : Int32} {μ : Mm}  (p : whP (fun s : Int32 × Int32 × Mm => bd_X12_bears_21  s.1 s.2.1 s.2.2) (fun s : Int32 × Int32 × Mm => sd_X12_bears_21   s.1 s.2.1 s.2.2) FU (x1, x2, μ)) (k : Q (some (.int (whl (fun s : Int32 × Int32 × Mm => bd_X12_bears_21  s.1 s.2.1 s.2.2) (fun s : Int32 × Int32 × Mm => (0, s.2.2)) FU (x1, x2, μ)).1)) (whl (fun s : Int32 × Int32 × Mm => bd_X12_bears_21  s.1 s.2.1 s.2.2) (fun s : Int32 × Int32 × Mm => (0, s.2.2)) FU (x1, x2, μ)).2) : J E G 5 mX12_bears Q 21 [(0, rf E 49), (1, .int x1), (2, .int x2)] [] μ := by
  refine J_whl (f := (fun s : Int32 × Int32 × Mm => bd_X12_bears_21  s.1 s.2.1 s.2.2)) (dd := (fun s : Int32 × Int32 × Mm => (0, s.2.2))) (sd := (fun s : Int32 × Int32 × Mm => sd_X12_bears_21   s.1 s.2.1 s.2.2)) (P := fun s : Int32 × Int32 × Mm => J E G 5 mX12_bears Q 21 [(0, rf E 49), (1, .int (s.1)), (2, .int (s.2.1))] [] (s.2.2)) (R := fun r : Int32 × Mm => Q (some (.int (r).1)) (r).2) ?_ FU (x1, x2, μ) p k
  clear p k
  rintro ⟨x1, x2, μ⟩ t k1 k2
  dsimp only [sd_X12_bears_21] at t
  have kb : ∀ (y1 : Int32) (y2 : Int32) (μ9 : Mm), bd_X12_bears_21  x1 x2 μ = .inl (y1, y2, μ9) → J E G 5 mX12_bears Q 21 [(0, rf E 49), (1, .int y1), (2, .int y2)] [] μ9 := fun y1 y2 μ9 h => k1 (y1, y2, μ9) h
  have kx : ∀ (y : Int32) (μ9 : Mm), bd_X12_bears_21  x1 x2 μ = .inr (y, μ9) → Q (some (.int y)) μ9 := fun y μ9 h => k2 (y, μ9) h
  clear k1 k2
  refine J_iload_n (dk okX12_bears 13 rfl) 2 rfl rfl ?_
  refine J_bipush (v := 9) (dk okX12_bears 14 rfl) (by decide) ?_
  refine J_icmp_gt (tgt := 78) (dk okX12_bears 15 rfl) (by decide) (fun h1 => ?_) (fun h1 => ?_)
  · refine J_bipush (v := (-2)) (dk okX12_bears 44 rfl) (by decide) ?_
    exact J_iret (dk okX12_bears 45 rfl) rfl (kx (-2) μ (by unfold bd_X12_bears_21; first | (simp only [if_pos h1]; done) | (simp only [if_pos h1]; rfl) | rfl))
  · have t := t h1
    refine J_aload_n (dk okX12_bears 16 rfl) 0 rfl rfl ?_
    refine J_getR (dk okX12_bears 17 rfl) kfX12_35 ds_49 rfl ?_
    refine J_bipush (v := 14) (dk okX12_bears 18 rfl) (by decide) ?_
    refine J_iload_n (dk okX12_bears 19 rfl) 1 rfl rfl ?_
    refine J_iadd (dk okX12_bears 20 rfl) ?_
    refine J_iload_n (dk okX12_bears 21 rfl) 2 rfl rfl ?_
    obtain ⟨s2, t⟩ := t
    refine J_iast (dk okX12_bears 22 rfl) ds_53 s2 ?_
    refine J_nm (fun μ3 eμ3 => ?_)
    have t := t μ3 eμ3
    refine J_aload_n (dk okX12_bears 23 rfl) 0 rfl rfl ?_
    refine J_aload_n (dk okX12_bears 24 rfl) 0 rfl rfl ?_
    refine J_getR (dk okX12_bears 25 rfl) kfX12_35 ds_49 rfl ?_
    obtain ⟨s4, t⟩ := t
    refine J_callVi (As := [rf E 53]) (dk okX12_bears 26 rfl) ds_49 rfl vkX12_moment lkX12_275 rfl rfl (Nat.le_of_ble_eq_true rfl) (by decide) (con_X12_moment ds_53 s4 ⟨_, rfl, ?_⟩)
    refine J_if_le (tgt := 72) (dk okX12_bears 27 rfl) (by decide) (fun h5 => ?_) (fun h5 => ?_)
    · refine J_iinc (v := (x2 + 1)) (ls' := [(2, _), (0, _), (1, _)]) (dk okX12_bears 42 rfl) 2 rfl rfl (by decide) rfl ?_
      refine J_goto (tgt := 21) (dk okX12_bears 43 rfl) (by decide) ?_
      exact J_sub [1, 2, 0] rfl (kb x1 (x2 + 1) μ3 (by subst eμ3; unfold bd_X12_bears_21; first | (simp only [if_neg h1, if_pos h5]; done) | (simp only [if_neg h1, if_pos h5]; rfl) | rfl))
    · have t := t h5
      refine J_aload_n (dk okX12_bears 28 rfl) 0 rfl rfl ?_
      refine J_iconst (v := 0) (dk okX12_bears 29 rfl) (by decide) ?_
      refine J_put (dk okX12_bears 30 rfl) kpX12_15 ds_49 rfl rfl rfl ?_
      refine J_nm (fun μ6 eμ6 => ?_)
      have t := t μ6 eμ6
      refine J_aload_n (dk okX12_bears 31 rfl) 0 rfl rfl ?_
      refine J_sipush (v := 2000) (dk okX12_bears 32 rfl) (by decide) ?_
      refine J_aload_n (dk okX12_bears 33 rfl) 0 rfl rfl ?_
      refine J_aload_n (dk okX12_bears 34 rfl) 0 rfl rfl ?_
      refine J_getR (dk okX12_bears 35 rfl) kfX12_35 ds_49 rfl ?_
      obtain ⟨s7, t⟩ := t
      refine J_callVi (As := [rf E 53]) (dk okX12_bears 36 rfl) ds_49 rfl vkX12_moment lkX12_275 rfl rfl (Nat.le_of_ble_eq_true rfl) (by decide) (con_X12_moment ds_53 s7 ⟨_, rfl, ?_⟩)
      refine J_iadd (dk okX12_bears 37 rfl) ?_
      refine J_i2l (dk okX12_bears 38 rfl) ?_
      have s8 := t
      refine J_callVv (As := [.long (Int32.toInt64 (2000 + (v_X12_moment 53 μ6)))]) (dk okX12_bears 39 rfl) ds_49 rfl vkX12_enters lkX12_18 rfl rfl (Nat.le_of_ble_eq_true rfl) (by decide) (con_X12_enters s8 ⟨rfl, ?_⟩)
      refine J_nm (fun μ9 eμ9 => ?_)
      refine J_iload_n (dk okX12_bears 40 rfl) 2 rfl rfl ?_
      exact J_iret (dk okX12_bears 41 rfl) rfl (kx x2 μ9 (by subst eμ9 eμ6 eμ3; unfold bd_X12_bears_21; first | (simp only [if_neg h1, if_neg h5]; done) | (simp only [if_neg h1, if_neg h5]; rfl) | rfl))
/-- VotingFloorModel.bears(I)I -/
noncomputable def v_X12_bears (p0 : Int32) (μ : Mm) : Int32 := (let μ1 : Mm := (upI μ 49 0 0); (if (v_X12_isOne p0 μ1) = 0 then (-1) else (let μ4 : Mm := (e_X12_copies  μ1); (whl (fun s : Int32 × Int32 × Mm => bd_X12_bears_21  s.1 s.2.1 s.2.2) (fun s : Int32 × Int32 × Mm => (0, s.2.2)) FU (p0, 0, μ4)).1)))
noncomputable def e_X12_bears (p0 : Int32) (μ : Mm) : Mm := (let μ1 : Mm := (upI μ 49 0 0); (if (v_X12_isOne p0 μ1) = 0 then μ1 else (let μ4 : Mm := (e_X12_copies  μ1); (whl (fun s : Int32 × Int32 × Mm => bd_X12_bears_21  s.1 s.2.1 s.2.2) (fun s : Int32 × Int32 × Mm => (0, s.2.2)) FU (p0, 0, μ4)).2)))
def p_X12_bears (p0 : Int32)  (μ : Mm) : Prop := (∀ μ1 : Mm, μ1 = (upI μ 49 0 0) → (¬ ((v_X12_isOne p0 μ1) = 0) → (p_X12_copies μ1) ∧ (∀ μ4 : Mm, μ4 = (e_X12_copies  μ1) → whP (fun s : Int32 × Int32 × Mm => bd_X12_bears_21  s.1 s.2.1 s.2.2) (fun s : Int32 × Int32 × Mm => sd_X12_bears_21   s.1 s.2.1 s.2.2) FU (p0, 0, μ4))))
set_option maxRecDepth 20000 in
set_option maxHeartbeats 4000000 in
theorem con_X12_bears {E : Ex} {Q : Option Value → Mm → Prop} {p0 : Int32} {μ : Mm} (t : p_X12_bears p0  μ) (k : Q (some (.int (v_X12_bears p0 μ))) (e_X12_bears p0 μ)) : Con E 5 mX12_bears [rf E 49, .int p0] μ Q := by
  refine Con_J (by decide +kernel) (Nat.le_of_ble_eq_true rfl) (fun G => ?_)
  unfold v_X12_bears e_X12_bears at k
  unfold p_X12_bears at t
  refine J_sub (ls' := [(0, rf E 49), (1, .int p0)]) [0, 1] rfl ?_
  refine J_aload_n (dk okX12_bears 0 rfl) 0 rfl rfl ?_
  refine J_iconst (v := 0) (dk okX12_bears 1 rfl) (by decide) ?_
  refine J_put (dk okX12_bears 2 rfl) kpX12_3 ds_49 rfl rfl rfl ?_
  refine J_nm (fun μ1 eμ1 => ?_)
  have t := t μ1 eμ1
  refine J_aload_n (dk okX12_bears 3 rfl) 0 rfl rfl ?_
  refine J_iload_n (dk okX12_bears 4 rfl) 1 rfl rfl ?_
  refine J_callVi (As := [.int p0]) (dk okX12_bears 5 rfl) ds_49 rfl vkX12_isOne lkX12_267 rfl rfl (Nat.le_of_ble_eq_true rfl) (by decide) (con_X12_isOne  ⟨_, rfl, ?_⟩)
  refine J_if_ne (tgt := 15) (dk okX12_bears 6 rfl) (by decide) (fun h2 => ?_) (fun h2 => ?_)
  · have t := t h2
    refine J_aload_n (dk okX12_bears 9 rfl) 0 rfl rfl ?_
    obtain ⟨s3, t⟩ := t
    refine J_callVv (As := []) (dk okX12_bears 10 rfl) ds_49 rfl vkX12_copies lkX12_346 rfl rfl (Nat.le_of_ble_eq_true rfl) (by decide) (con_X12_copies s3 ⟨rfl, ?_⟩)
    refine J_nm (fun μ4 eμ4 => ?_)
    have t := t μ4 eμ4
    refine J_iconst (v := 0) (dk okX12_bears 11 rfl) (by decide) ?_
    refine J_istore_n (ls' := [(2, _), (0, _), (1, _)]) (dk okX12_bears 12 rfl) rfl (by decide) rfl ?_
    have s5 := t
    refine J_sub (ls' := [(0, _), (1, _), (2, _)]) [1, 2, 0] rfl ?_
    subst eμ4 eμ1
    (try simp only [if_neg h2] at k ⊢)
    exact lw_X12_bears_21  s5 k
  · refine J_iconst (v := (-1)) (dk okX12_bears 7 rfl) (by decide) ?_
    subst eμ1
    (try simp only [if_pos h2] at k ⊢)
    exact J_iret (dk okX12_bears 8 rfl) rfl k
noncomputable def bd_X12_clears_9  (μ : Mm) (x1 : Int32) (x2 : Int32) : (Int32 × Int32) ⊕ (Int32) := (if (v_X12_all  μ) < x2 then .inr x1 else .inl ((if (if (x2 &&& (μ.1 52 (Int32.toNatClampNeg 21))) = 0 then (if (v_X12_moment 52 μ) = (v_X12_momentOf 52 x2 μ) then 1 else 0 : Int32) else 0 : Int32) = 0 then x1 else (if (v_X12_isFewer x2 x1) = 0 then x1 else x2 : Int32) : Int32), (x2 + 1)))
def sd_X12_clears_9   (μ : Mm) (x1 : Int32) (x2 : Int32) : Prop := (¬ ((v_X12_all  μ) < x2) → ((x2 &&& (μ.1 52 (Int32.toNatClampNeg 21))) = 0 → (p_X12_moment 52 μ) ∧ p_X12_momentOf 52 x2 μ))
set_option maxRecDepth 20000 in
set_option maxHeartbeats 4000000 in
theorem lw_X12_clears_9 {E : Ex} {G : Gx} {Q : Option Value → Mm → Prop} {x1 : Int32} {x2 : Int32} {μ : Mm}  (p : whP (fun s : Int32 × Int32 => bd_X12_clears_9  μ s.1 s.2) (fun s : Int32 × Int32 => sd_X12_clears_9   μ s.1 s.2) FU (x1, x2)) (k : ∀ r : Int32, r = whl (fun s : Int32 × Int32 => bd_X12_clears_9  μ s.1 s.2) (fun _ : Int32 × Int32 => 0) FU (x1, x2) → J E G 5 mX12_clears Q 79 [(0, rf E 49), (1, .int r)] [] μ) : J E G 5 mX12_clears Q 9 [(0, rf E 49), (1, .int x1), (2, .int x2)] [] μ := by
  refine J_whl (f := (fun s : Int32 × Int32 => bd_X12_clears_9  μ s.1 s.2)) (dd := (fun _ : Int32 × Int32 => 0)) (sd := (fun s : Int32 × Int32 => sd_X12_clears_9   μ s.1 s.2)) (P := fun s : Int32 × Int32 => J E G 5 mX12_clears Q 9 [(0, rf E 49), (1, .int (s.1)), (2, .int (s.2))] [] (μ)) (R := fun r : Int32 => J E G 5 mX12_clears Q 79 [(0, rf E 49), (1, .int r)] [] μ) ?_ FU (x1, x2) p (k _ rfl)
  clear p k
  rintro ⟨x1, x2⟩ t k1 k2
  dsimp only [sd_X12_clears_9] at t
  have kb : ∀ (y1 : Int32) (y2 : Int32) , bd_X12_clears_9  μ x1 x2 = .inl (y1, y2) → J E G 5 mX12_clears Q 9 [(0, rf E 49), (1, .int y1), (2, .int y2)] [] μ := fun y1 y2  h => k1 (y1, y2) h
  have kx : ∀ (y1 : Int32) , bd_X12_clears_9  μ x1 x2 = .inr y1 → J E G 5 mX12_clears Q 79 [(0, rf E 49), (1, .int y1)] [] μ := fun y1  h => k2 y1 h
  clear k1 k2
  refine J_iload_n (dk okX12_clears 7 rfl) 2 rfl rfl ?_
  refine J_aload_n (dk okX12_clears 8 rfl) 0 rfl rfl ?_
  refine J_callVi (As := []) (dk okX12_clears 9 rfl) ds_49 rfl vkX12_all lkX12_118 rfl rfl (Nat.le_of_ble_eq_true rfl) (by decide) (con_X12_all  ⟨_, rfl, ?_⟩)
  refine J_icmp_gt (tgt := 79) (dk okX12_clears 10 rfl) (by decide) (fun h1 => ?_) (fun h1 => ?_)
  · exact J_sub [0, 1] rfl (kx x1 (by unfold bd_X12_clears_9; first | (simp only [if_pos h1]; done) | (simp only [if_pos h1]; rfl) | rfl))
  · have t := t h1
    refine J_iload_n (dk okX12_clears 11 rfl) 2 rfl rfl ?_
    refine J_aload_n (dk okX12_clears 12 rfl) 0 rfl rfl ?_
    refine J_getR (dk okX12_clears 13 rfl) kfX12_32 ds_49 rfl ?_
    refine J_bipush (v := 21) (dk okX12_clears 14 rfl) (by decide) ?_
    refine J_iald (dk okX12_clears 15 rfl) ds_52 (by unfold vp_in; decide) ?_
    refine J_iand (dk okX12_clears 16 rfl) ?_
    have K6 : J E G 5 mX12_clears Q 54 [(0, rf E 49), (1, .int x1), (2, .int x2)] [.int (if (x2 &&& (μ.1 52 (Int32.toNatClampNeg 21))) = 0 then (if (v_X12_moment 52 μ) = (v_X12_momentOf 52 x2 μ) then 1 else 0 : Int32) else 0 : Int32)] μ := by
      refine J_istore_n (ls' := [(3, _), (0, _), (1, _), (2, _)]) (dk okX12_clears 31 rfl) rfl (by decide) rfl ?_
      refine J_iload_n (dk okX12_clears 32 rfl) 0 rfl rfl ?_
      have K9 : J E G 5 mX12_clears Q 72 [(0, rf E 49), (2, .int x2)] [.int (if (if (x2 &&& (μ.1 52 (Int32.toNatClampNeg 21))) = 0 then (if (v_X12_moment 52 μ) = (v_X12_momentOf 52 x2 μ) then 1 else 0 : Int32) else 0 : Int32) = 0 then x1 else (if (v_X12_isFewer x2 x1) = 0 then x1 else x2 : Int32) : Int32)] μ := by
        refine J_istore_n (ls' := [(1, _), (0, _), (2, _)]) (dk okX12_clears 41 rfl) rfl (by decide) rfl ?_
        refine J_iinc (v := (x2 + 1)) (ls' := [(2, _), (1, _), (0, _)]) (dk okX12_clears 42 rfl) 2 rfl rfl (by decide) rfl ?_
        refine J_goto (tgt := 9) (dk okX12_clears 43 rfl) (by decide) ?_
        exact J_sub [2, 1, 0] rfl (kb (if (if (x2 &&& (μ.1 52 (Int32.toNatClampNeg 21))) = 0 then (if (v_X12_moment 52 μ) = (v_X12_momentOf 52 x2 μ) then 1 else 0 : Int32) else 0 : Int32) = 0 then x1 else (if (v_X12_isFewer x2 x1) = 0 then x1 else x2 : Int32) : Int32) (x2 + 1) (by unfold bd_X12_clears_9; first | (simp only [if_neg h1]; done) | (simp only [if_neg h1]; rfl) | rfl))
      refine J_if_eq (tgt := 71) (dk okX12_clears 33 rfl) (by decide) (fun h7 => ?_) (fun h7 => ?_)
      · refine J_iload_n (dk okX12_clears 40 rfl) 2 rfl rfl ?_
        refine J_sub (ls' := [(0, _), (2, _)]) [1, 3] rfl ?_
        (try simp only [if_pos h7] at K9 ⊢); exact K9
      · refine J_iload_n (dk okX12_clears 34 rfl) 3 rfl rfl ?_
        refine J_iload_n (dk okX12_clears 35 rfl) 2 rfl rfl ?_
        refine J_callSi (As := [.int x2, .int x1]) (dk okX12_clears 36 rfl) skX12_isFewer lkX12_365 rfl rfl (Nat.le_of_ble_eq_true rfl) (by decide) (con_X12_isFewer  ⟨_, rfl, ?_⟩)
        refine J_if_eq (tgt := 71) (dk okX12_clears 37 rfl) (by decide) (fun h8 => ?_) (fun h8 => ?_)
        · refine J_iload_n (dk okX12_clears 40 rfl) 2 rfl rfl ?_
          refine J_sub (ls' := [(0, _), (2, _)]) [1, 3] rfl ?_
          (try simp only [if_neg h7, if_pos h8] at K9 ⊢); exact K9
        · refine J_iload_n (dk okX12_clears 38 rfl) 3 rfl rfl ?_
          refine J_goto (tgt := 72) (dk okX12_clears 39 rfl) (by decide) ?_
          refine J_sub (ls' := [(0, _), (2, _)]) [1, 3] rfl ?_
          (try simp only [if_neg h7, if_neg h8] at K9 ⊢); exact K9
    refine J_if_ne (tgt := 53) (dk okX12_clears 17 rfl) (by decide) (fun h2 => ?_) (fun h2 => ?_)
    · refine J_iconst (v := 0) (dk okX12_clears 30 rfl) (by decide) ?_
      refine J_sub (ls' := [(0, _), (1, _), (2, _)]) [0, 1, 2] rfl ?_
      (try simp only [if_neg h2] at K6 ⊢); exact K6
    · have t := t h2
      refine J_aload_n (dk okX12_clears 18 rfl) 0 rfl rfl ?_
      refine J_aload_n (dk okX12_clears 19 rfl) 0 rfl rfl ?_
      refine J_getR (dk okX12_clears 20 rfl) kfX12_32 ds_49 rfl ?_
      obtain ⟨s3, t⟩ := t
      refine J_callVi (As := [rf E 52]) (dk okX12_clears 21 rfl) ds_49 rfl vkX12_moment lkX12_275 rfl rfl (Nat.le_of_ble_eq_true rfl) (by decide) (con_X12_moment ds_52 s3 ⟨_, rfl, ?_⟩)
      refine J_aload_n (dk okX12_clears 22 rfl) 0 rfl rfl ?_
      refine J_aload_n (dk okX12_clears 23 rfl) 0 rfl rfl ?_
      refine J_getR (dk okX12_clears 24 rfl) kfX12_32 ds_49 rfl ?_
      refine J_iload_n (dk okX12_clears 25 rfl) 2 rfl rfl ?_
      have s4 := t
      refine J_callVi (As := [rf E 52, .int x2]) (dk okX12_clears 26 rfl) ds_49 rfl vkX12_momentOf lkX12_134 rfl rfl (Nat.le_of_ble_eq_true rfl) (by decide) (con_X12_momentOf ds_52 s4 ⟨_, rfl, ?_⟩)
      refine J_icmp_ne (tgt := 53) (dk okX12_clears 27 rfl) (by decide) (fun h5 => ?_) (fun h5 => ?_)
      · refine J_iconst (v := 0) (dk okX12_clears 30 rfl) (by decide) ?_
        refine J_sub (ls' := [(0, _), (1, _), (2, _)]) [0, 1, 2] rfl ?_
        (try simp only [if_pos h2, if_neg h5] at K6 ⊢); exact K6
      · refine J_iconst (v := 1) (dk okX12_clears 28 rfl) (by decide) ?_
        refine J_goto (tgt := 54) (dk okX12_clears 29 rfl) (by decide) ?_
        refine J_sub (ls' := [(0, _), (1, _), (2, _)]) [0, 1, 2] rfl ?_
        (try simp only [if_pos h2, if_pos h5] at K6 ⊢); exact K6
/-- VotingFloorModel.clears()I -/
noncomputable def v_X12_clears  (μ : Mm) : Int32 := (let μ1 : Mm := (upI μ 49 0 0); (let r3 : Int32 := whl (fun s : Int32 × Int32 => bd_X12_clears_9  μ1 s.1 s.2) (fun _ : Int32 × Int32 => 0) FU ((-1), 0); (v_X12_entersFewest r3)))
noncomputable def e_X12_clears  (μ : Mm) : Mm := (let μ1 : Mm := (upI μ 49 0 0); (let r3 : Int32 := whl (fun s : Int32 × Int32 => bd_X12_clears_9  μ1 s.1 s.2) (fun _ : Int32 × Int32 => 0) FU ((-1), 0); (let μ5 : Mm := (e_X12_entersFewest r3 μ1); μ5)))
def p_X12_clears   (μ : Mm) : Prop := (∀ μ1 : Mm, μ1 = (upI μ 49 0 0) → (whP (fun s : Int32 × Int32 => bd_X12_clears_9  μ1 s.1 s.2) (fun s : Int32 × Int32 => sd_X12_clears_9   μ1 s.1 s.2) FU ((-1), 0)) ∧ (∀ r3 : Int32, r3 = whl (fun s : Int32 × Int32 => bd_X12_clears_9  μ1 s.1 s.2) (fun _ : Int32 × Int32 => 0) FU ((-1), 0) → p_X12_entersFewest r3 μ1))
set_option maxRecDepth 20000 in
set_option maxHeartbeats 4000000 in
theorem con_X12_clears {E : Ex} {Q : Option Value → Mm → Prop} {μ : Mm} (t : p_X12_clears   μ) (k : Q (some (.int (v_X12_clears  μ))) (e_X12_clears  μ)) : Con E 5 mX12_clears [rf E 49] μ Q := by
  refine Con_J (by decide +kernel) (Nat.le_of_ble_eq_true rfl) (fun G => ?_)
  unfold v_X12_clears e_X12_clears at k
  unfold p_X12_clears at t
  refine J_sub (ls' := [(0, rf E 49)]) [0] rfl ?_
  refine J_aload_n (dk okX12_clears 0 rfl) 0 rfl rfl ?_
  refine J_iconst (v := 0) (dk okX12_clears 1 rfl) (by decide) ?_
  refine J_put (dk okX12_clears 2 rfl) kpX12_3 ds_49 rfl rfl rfl ?_
  refine J_nm (fun μ1 eμ1 => ?_)
  have t := t μ1 eμ1
  refine J_iconst (v := (-1)) (dk okX12_clears 3 rfl) (by decide) ?_
  refine J_istore_n (ls' := [(1, _), (0, _)]) (dk okX12_clears 4 rfl) rfl (by decide) rfl ?_
  refine J_iconst (v := 0) (dk okX12_clears 5 rfl) (by decide) ?_
  refine J_istore_n (ls' := [(2, _), (1, _), (0, _)]) (dk okX12_clears 6 rfl) rfl (by decide) rfl ?_
  obtain ⟨s2, t⟩ := t
  refine J_sub (ls' := [(0, _), (1, _), (2, _)]) [2, 1, 0] rfl ?_
  refine lw_X12_clears_9  s2 (fun r3 er3 => ?_)
  have t := t r3 er3
  refine J_aload_n (dk okX12_clears 44 rfl) 0 rfl rfl ?_
  refine J_iload_n (dk okX12_clears 45 rfl) 1 rfl rfl ?_
  have s4 := t
  refine J_callVi (As := [.int r3]) (dk okX12_clears 46 rfl) ds_49 rfl vkX12_entersFewest lkX12_368 rfl rfl (Nat.le_of_ble_eq_true rfl) (by decide) (con_X12_entersFewest s4 ⟨_, rfl, ?_⟩)
  refine J_nm (fun μ5 eμ5 => ?_)
  subst eμ5 er3 eμ1
  exact J_iret (dk okX12_clears 47 rfl) rfl k
/-- VotingFloorModel.count(I)I -/
noncomputable def v_X12_count (p0 : Int32) (μ : Mm) : Int32 := (let μ1 : Mm := (upI μ 49 0 0); (if p0 = 0 then (μ1.1 49 3) else (if p0 = 1 then (v_X12_here 52 μ1) else (if p0 = 2 then (μ1.1 52 (Int32.toNatClampNeg 22)) else (if p0 = 3 then (μ1.1 52 (Int32.toNatClampNeg 23)) else (if p0 = 4 then (2000 + (v_X12_moment 52 μ1)) else (if p0 = 5 then (v_X12_loadOf 52 (v_X12_all  μ1) μ1) else (if p0 = 6 then (μ1.1 49 31) else (if p0 = 7 then (μ1.1 49 36) else (if p0 = 8 then (μ1.1 49 23) else (if p0 = 9 then (μ1.1 49 1) else (if p0 = 10 then (μ1.1 49 9) else (-100)))))))))))))
noncomputable def e_X12_count (p0 : Int32) (μ : Mm) : Mm := (let μ1 : Mm := (upI μ 49 0 0); μ1)
def p_X12_count (p0 : Int32)  (μ : Mm) : Prop := (∀ μ1 : Mm, μ1 = (upI μ 49 0 0) → (¬ (p0 = 0) → (¬ (p0 = 1) → (¬ (p0 = 2) → (¬ (p0 = 3) → ((p0 = 4 → p_X12_moment 52 μ1) ∧ (¬ (p0 = 4) → (p0 = 5 → p_X12_loadOf 52 (v_X12_all μ1) μ1))))))))
set_option maxRecDepth 20000 in
set_option maxHeartbeats 4000000 in
theorem con_X12_count {E : Ex} {Q : Option Value → Mm → Prop} {p0 : Int32} {μ : Mm} (t : p_X12_count p0  μ) (k : Q (some (.int (v_X12_count p0 μ))) (e_X12_count p0 μ)) : Con E 5 mX12_count [rf E 49, .int p0] μ Q := by
  refine Con_J (by decide +kernel) (Nat.le_of_ble_eq_true rfl) (fun G => ?_)
  unfold v_X12_count e_X12_count at k
  unfold p_X12_count at t
  refine J_sub (ls' := [(0, rf E 49), (1, .int p0)]) [0, 1] rfl ?_
  refine J_aload_n (dk okX12_count 0 rfl) 0 rfl rfl ?_
  refine J_iconst (v := 0) (dk okX12_count 1 rfl) (by decide) ?_
  refine J_put (dk okX12_count 2 rfl) kpX12_3 ds_49 rfl rfl rfl ?_
  refine J_nm (fun μ1 eμ1 => ?_)
  have t := t μ1 eμ1
  refine J_iload_n (dk okX12_count 3 rfl) 1 rfl rfl ?_
  by_cases h3 : p0 = 0
  · refine J_at h3 (J_tableIn (x := 0) (off := 58) (tgt := 64) (dk okX12_count 4 rfl) (by decide) (by decide) (by decide) (by decide) ?_)
    refine J_aload_n (dk okX12_count 5 rfl) 0 rfl rfl ?_
    refine J_getI (dk okX12_count 6 rfl) kfX12_111 ds_49 rfl ?_
    subst eμ1
    (try simp only [if_pos h3] at k ⊢)
    exact J_iret (dk okX12_count 7 rfl) rfl k
  · have t := t h3
    by_cases h4 : p0 = 1
    · refine J_at h4 (J_tableIn (x := 1) (off := 63) (tgt := 69) (dk okX12_count 4 rfl) (by decide) (by decide) (by decide) (by decide) ?_)
      refine J_aload_n (dk okX12_count 8 rfl) 0 rfl rfl ?_
      refine J_aload_n (dk okX12_count 9 rfl) 0 rfl rfl ?_
      refine J_getR (dk okX12_count 10 rfl) kfX12_32 ds_49 rfl ?_
      refine J_callVi (As := [rf E 52]) (dk okX12_count 11 rfl) ds_49 rfl vkX12_here lkX12_122 rfl rfl (Nat.le_of_ble_eq_true rfl) (by decide) (con_X12_here ds_52 ⟨_, rfl, ?_⟩)
      subst eμ1
      (try simp only [if_neg h3, if_pos h4] at k ⊢)
      exact J_iret (dk okX12_count 12 rfl) rfl k
    · have t := t h4
      by_cases h5 : p0 = 2
      · refine J_at h5 (J_tableIn (x := 2) (off := 72) (tgt := 78) (dk okX12_count 4 rfl) (by decide) (by decide) (by decide) (by decide) ?_)
        refine J_aload_n (dk okX12_count 13 rfl) 0 rfl rfl ?_
        refine J_getR (dk okX12_count 14 rfl) kfX12_32 ds_49 rfl ?_
        refine J_bipush (v := 22) (dk okX12_count 15 rfl) (by decide) ?_
        refine J_iald (dk okX12_count 16 rfl) ds_52 (by unfold vp_in; decide) ?_
        subst eμ1
        (try simp only [if_neg h3, if_neg h4, if_pos h5] at k ⊢)
        exact J_iret (dk okX12_count 17 rfl) rfl k
      · have t := t h5
        by_cases h6 : p0 = 3
        · refine J_at h6 (J_tableIn (x := 3) (off := 80) (tgt := 86) (dk okX12_count 4 rfl) (by decide) (by decide) (by decide) (by decide) ?_)
          refine J_aload_n (dk okX12_count 18 rfl) 0 rfl rfl ?_
          refine J_getR (dk okX12_count 19 rfl) kfX12_32 ds_49 rfl ?_
          refine J_bipush (v := 23) (dk okX12_count 20 rfl) (by decide) ?_
          refine J_iald (dk okX12_count 21 rfl) ds_52 (by unfold vp_in; decide) ?_
          subst eμ1
          (try simp only [if_neg h3, if_neg h4, if_neg h5, if_pos h6] at k ⊢)
          exact J_iret (dk okX12_count 22 rfl) rfl k
        · have t := t h6
          by_cases h7 : p0 = 4
          · have t := t.1 h7
            refine J_at h7 (J_tableIn (x := 4) (off := 88) (tgt := 94) (dk okX12_count 4 rfl) (by decide) (by decide) (by decide) (by decide) ?_)
            refine J_sipush (v := 2000) (dk okX12_count 23 rfl) (by decide) ?_
            refine J_aload_n (dk okX12_count 24 rfl) 0 rfl rfl ?_
            refine J_aload_n (dk okX12_count 25 rfl) 0 rfl rfl ?_
            refine J_getR (dk okX12_count 26 rfl) kfX12_32 ds_49 rfl ?_
            have s8 := t
            refine J_callVi (As := [rf E 52]) (dk okX12_count 27 rfl) ds_49 rfl vkX12_moment lkX12_275 rfl rfl (Nat.le_of_ble_eq_true rfl) (by decide) (con_X12_moment ds_52 s8 ⟨_, rfl, ?_⟩)
            refine J_iadd (dk okX12_count 28 rfl) ?_
            subst eμ1
            (try simp only [if_neg h3, if_neg h4, if_neg h5, if_neg h6, if_pos h7] at k ⊢)
            exact J_iret (dk okX12_count 29 rfl) rfl k
          · have t := t.2 h7
            by_cases h9 : p0 = 5
            · have t := t h9
              refine J_at h9 (J_tableIn (x := 5) (off := 101) (tgt := 107) (dk okX12_count 4 rfl) (by decide) (by decide) (by decide) (by decide) ?_)
              refine J_aload_n (dk okX12_count 30 rfl) 0 rfl rfl ?_
              refine J_aload_n (dk okX12_count 31 rfl) 0 rfl rfl ?_
              refine J_getR (dk okX12_count 32 rfl) kfX12_32 ds_49 rfl ?_
              refine J_aload_n (dk okX12_count 33 rfl) 0 rfl rfl ?_
              refine J_callVi (As := []) (dk okX12_count 34 rfl) ds_49 rfl vkX12_all lkX12_118 rfl rfl (Nat.le_of_ble_eq_true rfl) (by decide) (con_X12_all  ⟨_, rfl, ?_⟩)
              have s10 := t
              refine J_callVi (As := [rf E 52, .int (v_X12_all  μ1)]) (dk okX12_count 35 rfl) ds_49 rfl vkX12_loadOf lkX12_343 rfl rfl (Nat.le_of_ble_eq_true rfl) (by decide) (con_X12_loadOf ds_52 s10 ⟨_, rfl, ?_⟩)
              subst eμ1
              (try simp only [if_neg h3, if_neg h4, if_neg h5, if_neg h6, if_neg h7, if_pos h9] at k ⊢)
              exact J_iret (dk okX12_count 36 rfl) rfl k
            · by_cases h11 : p0 = 6
              · refine J_at h11 (J_tableIn (x := 6) (off := 114) (tgt := 120) (dk okX12_count 4 rfl) (by decide) (by decide) (by decide) (by decide) ?_)
                refine J_aload_n (dk okX12_count 37 rfl) 0 rfl rfl ?_
                refine J_getI (dk okX12_count 38 rfl) kfX12_391 ds_49 rfl ?_
                subst eμ1
                (try simp only [if_neg h3, if_neg h4, if_neg h5, if_neg h6, if_neg h7, if_neg h9, if_pos h11] at k ⊢)
                exact J_iret (dk okX12_count 39 rfl) rfl k
              · by_cases h12 : p0 = 7
                · refine J_at h12 (J_tableIn (x := 7) (off := 119) (tgt := 125) (dk okX12_count 4 rfl) (by decide) (by decide) (by decide) (by decide) ?_)
                  refine J_aload_n (dk okX12_count 40 rfl) 0 rfl rfl ?_
                  refine J_getI (dk okX12_count 41 rfl) kfX12_418 ds_49 rfl ?_
                  subst eμ1
                  (try simp only [if_neg h3, if_neg h4, if_neg h5, if_neg h6, if_neg h7, if_neg h9, if_neg h11, if_pos h12] at k ⊢)
                  exact J_iret (dk okX12_count 42 rfl) rfl k
                · by_cases h13 : p0 = 8
                  · refine J_at h13 (J_tableIn (x := 8) (off := 124) (tgt := 130) (dk okX12_count 4 rfl) (by decide) (by decide) (by decide) (by decide) ?_)
                    refine J_aload_n (dk okX12_count 43 rfl) 0 rfl rfl ?_
                    refine J_getI (dk okX12_count 44 rfl) kfX12_213 ds_49 rfl ?_
                    subst eμ1
                    (try simp only [if_neg h3, if_neg h4, if_neg h5, if_neg h6, if_neg h7, if_neg h9, if_neg h11, if_neg h12, if_pos h13] at k ⊢)
                    exact J_iret (dk okX12_count 45 rfl) rfl k
                  · by_cases h14 : p0 = 9
                    · refine J_at h14 (J_tableIn (x := 9) (off := 129) (tgt := 135) (dk okX12_count 4 rfl) (by decide) (by decide) (by decide) (by decide) ?_)
                      refine J_aload_n (dk okX12_count 46 rfl) 0 rfl rfl ?_
                      refine J_getI (dk okX12_count 47 rfl) kfX12_15 ds_49 rfl ?_
                      subst eμ1
                      (try simp only [if_neg h3, if_neg h4, if_neg h5, if_neg h6, if_neg h7, if_neg h9, if_neg h11, if_neg h12, if_neg h13, if_pos h14] at k ⊢)
                      exact J_iret (dk okX12_count 48 rfl) rfl k
                    · by_cases h15 : p0 = 10
                      · refine J_at h15 (J_tableIn (x := 10) (off := 134) (tgt := 140) (dk okX12_count 4 rfl) (by decide) (by decide) (by decide) (by decide) ?_)
                        refine J_aload_n (dk okX12_count 49 rfl) 0 rfl rfl ?_
                        refine J_getI (dk okX12_count 50 rfl) kfX12_141 ds_49 rfl ?_
                        subst eμ1
                        (try simp only [if_neg h3, if_neg h4, if_neg h5, if_neg h6, if_neg h7, if_neg h9, if_neg h11, if_neg h12, if_neg h13, if_neg h14, if_pos h15] at k ⊢)
                        exact J_iret (dk okX12_count 51 rfl) rfl k
                      · have nh3 := lv_neT (a := 0) h3 (by decide)
                        have nh4 := lv_neT (a := 1) h4 (by decide)
                        have nh5 := lv_neT (a := 2) h5 (by decide)
                        have nh6 := lv_neT (a := 3) h6 (by decide)
                        have nh7 := lv_neT (a := 4) h7 (by decide)
                        have nh9 := lv_neT (a := 5) h9 (by decide)
                        have nh11 := lv_neT (a := 6) h11 (by decide)
                        have nh12 := lv_neT (a := 7) h12 (by decide)
                        have nh13 := lv_neT (a := 8) h13 (by decide)
                        have nh14 := lv_neT (a := 9) h14 (by decide)
                        have nh15 := lv_neT (a := 10) h15 (by decide)
                        refine J_tableOut (tgt := 145) (dk okX12_count 4 rfl) (by omega) (by decide) ?_
                        refine J_bipush (v := (-100)) (dk okX12_count 52 rfl) (by decide) ?_
                        subst eμ1
                        (try simp only [if_neg h3, if_neg h4, if_neg h5, if_neg h6, if_neg h7, if_neg h9, if_neg h11, if_neg h12, if_neg h13, if_neg h14, if_neg h15] at k ⊢)
                        exact J_iret (dk okX12_count 53 rfl) rfl k
noncomputable def bd_X12_minuteGoes_11 (p0 : Nat) (x2 : Int32) (x3 : Int32) (x4 : Int32) (μ : Mm) : (Int32 × Int32 × Int32 × Mm) ⊕ (Int32 × Mm) := (if (μ.1 49 3) ≤ x4 then .inr (x3, μ) else (let μ3 : Mm := (e_X12_walksTo p0 x4 x2 μ); (let μ5 : Mm := (upI μ3 62 (Int32.toNatClampNeg x4) (v_X12_walksTo p0 x4 x2 μ)); .inl (x2, (x3 + (v_X12_flag (if (μ5.1 62 (Int32.toNatClampNeg x4)) = 0 then 0 else 1 : Int32))), (x4 + 1), μ5))))
def sd_X12_minuteGoes_11 (p0 : Nat)  (x2 : Int32) (x3 : Int32) (x4 : Int32) (μ : Mm) : Prop := (¬ ((μ.1 49 3) ≤ x4) → (p_X12_walksTo p0 x4 x2 μ) ∧ (∀ μ3 : Mm, μ3 = (e_X12_walksTo p0 x4 x2 μ) → (vp_in x4 7) ∧ (∀ μ5 : Mm, μ5 = (upI μ3 62 (Int32.toNatClampNeg x4) (v_X12_walksTo p0 x4 x2 μ)) → vp_in x4 7)))
set_option maxRecDepth 20000 in
set_option maxHeartbeats 4000000 in
theorem lw_X12_minuteGoes_11 {E : Ex} {G : Gx} {Q : Option Value → Mm → Prop} {p0 : Nat} {x2 : Int32} {x3 : Int32} {x4 : Int32} {μ : Mm} (hp0 : dscL[p0]? = some (.inr (.inl (1, 24)))) (p : whP (fun s : Int32 × Int32 × Int32 × Mm => bd_X12_minuteGoes_11 p0 s.1 s.2.1 s.2.2.1 s.2.2.2) (fun s : Int32 × Int32 × Int32 × Mm => sd_X12_minuteGoes_11 p0  s.1 s.2.1 s.2.2.1 s.2.2.2) FU (x2, x3, x4, μ)) (k : ∀ r : Int32 × Mm, r = whl (fun s : Int32 × Int32 × Int32 × Mm => bd_X12_minuteGoes_11 p0 s.1 s.2.1 s.2.2.1 s.2.2.2) (fun s : Int32 × Int32 × Int32 × Mm => (0, s.2.2.2)) FU (x2, x3, x4, μ) → J E G 5 mX12_minuteGoes Q 62 [(0, rf E 49), (1, rf E p0), (3, .int (r.1))] [] (r.2)) : J E G 5 mX12_minuteGoes Q 11 [(0, rf E 49), (1, rf E p0), (2, .int x2), (3, .int x3), (4, .int x4)] [] μ := by
  refine J_whl (f := (fun s : Int32 × Int32 × Int32 × Mm => bd_X12_minuteGoes_11 p0 s.1 s.2.1 s.2.2.1 s.2.2.2)) (dd := (fun s : Int32 × Int32 × Int32 × Mm => (0, s.2.2.2))) (sd := (fun s : Int32 × Int32 × Int32 × Mm => sd_X12_minuteGoes_11 p0  s.1 s.2.1 s.2.2.1 s.2.2.2)) (P := fun s : Int32 × Int32 × Int32 × Mm => J E G 5 mX12_minuteGoes Q 11 [(0, rf E 49), (1, rf E p0), (2, .int (s.1)), (3, .int (s.2.1)), (4, .int (s.2.2.1))] [] (s.2.2.2)) (R := fun r : Int32 × Mm => J E G 5 mX12_minuteGoes Q 62 [(0, rf E 49), (1, rf E p0), (3, .int (r.1))] [] (r.2)) ?_ FU (x2, x3, x4, μ) p (k _ rfl)
  clear p k
  rintro ⟨x2, x3, x4, μ⟩ t k1 k2
  dsimp only [sd_X12_minuteGoes_11] at t
  have kb : ∀ (y2 : Int32) (y3 : Int32) (y4 : Int32) (μ9 : Mm), bd_X12_minuteGoes_11 p0 x2 x3 x4 μ = .inl (y2, y3, y4, μ9) → J E G 5 mX12_minuteGoes Q 11 [(0, rf E 49), (1, rf E p0), (2, .int y2), (3, .int y3), (4, .int y4)] [] μ9 := fun y2 y3 y4 μ9 h => k1 (y2, y3, y4, μ9) h
  have kx : ∀ (y3 : Int32) (μ9 : Mm), bd_X12_minuteGoes_11 p0 x2 x3 x4 μ = .inr (y3, μ9) → J E G 5 mX12_minuteGoes Q 62 [(0, rf E 49), (1, rf E p0), (3, .int y3)] [] μ9 := fun y3 μ9 h => k2 (y3, μ9) h
  clear k1 k2
  refine J_iload (dk okX12_minuteGoes 8 rfl) 4 rfl ?_
  refine J_aload_n (dk okX12_minuteGoes 9 rfl) 0 rfl rfl ?_
  refine J_getI (dk okX12_minuteGoes 10 rfl) kfX12_111 ds_49 rfl ?_
  refine J_icmp_ge (tgt := 62) (dk okX12_minuteGoes 11 rfl) (by decide) (fun h1 => ?_) (fun h1 => ?_)
  · exact J_sub [0, 1, 3] rfl (kx x3 μ (by unfold bd_X12_minuteGoes_11; first | (simp only [if_pos h1]; done) | (simp only [if_pos h1]; rfl) | rfl))
  · have t := t h1
    refine J_aload_n (dk okX12_minuteGoes 12 rfl) 0 rfl rfl ?_
    refine J_getR (dk okX12_minuteGoes 13 rfl) kfX12_62 ds_49 rfl ?_
    refine J_iload (dk okX12_minuteGoes 14 rfl) 4 rfl ?_
    refine J_aload_n (dk okX12_minuteGoes 15 rfl) 0 rfl rfl ?_
    refine J_aload_n (dk okX12_minuteGoes 16 rfl) 1 rfl rfl ?_
    refine J_iload (dk okX12_minuteGoes 17 rfl) 4 rfl ?_
    refine J_iload_n (dk okX12_minuteGoes 18 rfl) 2 rfl rfl ?_
    obtain ⟨s2, t⟩ := t
    refine J_callVi (As := [rf E p0, .int x4, .int x2]) (dk okX12_minuteGoes 19 rfl) ds_49 rfl vkX12_walksTo lkX12_278 rfl rfl (Nat.le_of_ble_eq_true rfl) (by decide) (con_X12_walksTo hp0 s2 ⟨_, rfl, ?_⟩)
    refine J_nm (fun μ3 eμ3 => ?_)
    have t := t μ3 eμ3
    obtain ⟨s4, t⟩ := t
    refine J_iast (dk okX12_minuteGoes 20 rfl) ds_62 s4 ?_
    refine J_nm (fun μ5 eμ5 => ?_)
    have t := t μ5 eμ5
    refine J_iload_n (dk okX12_minuteGoes 21 rfl) 3 rfl rfl ?_
    refine J_aload_n (dk okX12_minuteGoes 22 rfl) 0 rfl rfl ?_
    refine J_getR (dk okX12_minuteGoes 23 rfl) kfX12_62 ds_49 rfl ?_
    refine J_iload (dk okX12_minuteGoes 24 rfl) 4 rfl ?_
    have s6 := t
    refine J_iald (dk okX12_minuteGoes 25 rfl) ds_62 s6 ?_
    have K8 : J E G 5 mX12_minuteGoes Q 51 [(0, rf E 49), (1, rf E p0), (2, .int x2), (4, .int x4)] [.int (if (μ5.1 62 (Int32.toNatClampNeg x4)) = 0 then 0 else 1 : Int32), .int x3] μ5 := by
      refine J_callSi (As := [.int (if (μ5.1 62 (Int32.toNatClampNeg x4)) = 0 then 0 else 1 : Int32)]) (dk okX12_minuteGoes 30 rfl) skX12_flag lkX12_137 rfl rfl (Nat.le_of_ble_eq_true rfl) (by decide) (con_X12_flag  ⟨_, rfl, ?_⟩)
      refine J_iadd (dk okX12_minuteGoes 31 rfl) ?_
      refine J_istore_n (ls' := [(3, _), (0, _), (1, _), (2, _), (4, _)]) (dk okX12_minuteGoes 32 rfl) rfl (by decide) rfl ?_
      refine J_iinc (v := (x4 + 1)) (ls' := [(4, _), (3, _), (0, _), (1, _), (2, _)]) (dk okX12_minuteGoes 33 rfl) 4 rfl rfl (by decide) rfl ?_
      refine J_goto (tgt := 11) (dk okX12_minuteGoes 34 rfl) (by decide) ?_
      exact J_sub [2, 3, 4, 1, 0] rfl (kb x2 (x3 + (v_X12_flag (if (μ5.1 62 (Int32.toNatClampNeg x4)) = 0 then 0 else 1 : Int32))) (x4 + 1) μ5 (by subst eμ5 eμ3; unfold bd_X12_minuteGoes_11; first | (simp only [if_neg h1]; done) | (simp only [if_neg h1]; rfl) | rfl))
    refine J_if_eq (tgt := 50) (dk okX12_minuteGoes 26 rfl) (by decide) (fun h7 => ?_) (fun h7 => ?_)
    · refine J_iconst (v := 0) (dk okX12_minuteGoes 29 rfl) (by decide) ?_
      refine J_sub (ls' := [(0, _), (1, _), (2, _), (4, _)]) [0, 1, 2, 4] rfl ?_
      (try simp only [if_pos h7] at K8 ⊢); exact K8
    · refine J_iconst (v := 1) (dk okX12_minuteGoes 27 rfl) (by decide) ?_
      refine J_goto (tgt := 51) (dk okX12_minuteGoes 28 rfl) (by decide) ?_
      refine J_sub (ls' := [(0, _), (1, _), (2, _), (4, _)]) [0, 1, 2, 4] rfl ?_
      (try simp only [if_neg h7] at K8 ⊢); exact K8
noncomputable def bd_X12_minuteGoes_65 (p0 : Nat) (x3 : Int32) (x4 : Int32) (μ : Mm) : (Int32 × Int32 × Mm) ⊕ (Int32 × Mm) := (if (μ.1 49 3) ≤ x4 then .inr (x3, μ) else (let μ5 : Mm := (upI μ p0 (Int32.toNatClampNeg (7 + x4)) ((μ.1 p0 (Int32.toNatClampNeg (7 + x4))) + (μ.1 62 (Int32.toNatClampNeg x4)))); .inl (x3, (x4 + 1), μ5)))
def sd_X12_minuteGoes_65 (p0 : Nat)  (x3 : Int32) (x4 : Int32) (μ : Mm) : Prop := (¬ ((μ.1 49 3) ≤ x4) → (vp_in (7 + x4) 24) ∧ (vp_in x4 7) ∧ vp_in (7 + x4) 24)
set_option maxRecDepth 20000 in
set_option maxHeartbeats 4000000 in
theorem lw_X12_minuteGoes_65 {E : Ex} {G : Gx} {Q : Option Value → Mm → Prop} {p0 : Nat} {x3 : Int32} {x4 : Int32} {μ : Mm} (hp0 : dscL[p0]? = some (.inr (.inl (1, 24)))) (p : whP (fun s : Int32 × Int32 × Mm => bd_X12_minuteGoes_65 p0 s.1 s.2.1 s.2.2) (fun s : Int32 × Int32 × Mm => sd_X12_minuteGoes_65 p0  s.1 s.2.1 s.2.2) FU (x3, x4, μ)) (k : ∀ r : Int32 × Mm, r = whl (fun s : Int32 × Int32 × Mm => bd_X12_minuteGoes_65 p0 s.1 s.2.1 s.2.2) (fun s : Int32 × Int32 × Mm => (0, s.2.2)) FU (x3, x4, μ) → J E G 5 mX12_minuteGoes Q 97 [(1, rf E p0), (3, .int (r.1))] [] (r.2)) : J E G 5 mX12_minuteGoes Q 65 [(0, rf E 49), (1, rf E p0), (3, .int x3), (4, .int x4)] [] μ := by
  refine J_whl (f := (fun s : Int32 × Int32 × Mm => bd_X12_minuteGoes_65 p0 s.1 s.2.1 s.2.2)) (dd := (fun s : Int32 × Int32 × Mm => (0, s.2.2))) (sd := (fun s : Int32 × Int32 × Mm => sd_X12_minuteGoes_65 p0  s.1 s.2.1 s.2.2)) (P := fun s : Int32 × Int32 × Mm => J E G 5 mX12_minuteGoes Q 65 [(0, rf E 49), (1, rf E p0), (3, .int (s.1)), (4, .int (s.2.1))] [] (s.2.2)) (R := fun r : Int32 × Mm => J E G 5 mX12_minuteGoes Q 97 [(1, rf E p0), (3, .int (r.1))] [] (r.2)) ?_ FU (x3, x4, μ) p (k _ rfl)
  clear p k
  rintro ⟨x3, x4, μ⟩ t k1 k2
  dsimp only [sd_X12_minuteGoes_65] at t
  have kb : ∀ (y3 : Int32) (y4 : Int32) (μ9 : Mm), bd_X12_minuteGoes_65 p0 x3 x4 μ = .inl (y3, y4, μ9) → J E G 5 mX12_minuteGoes Q 65 [(0, rf E 49), (1, rf E p0), (3, .int y3), (4, .int y4)] [] μ9 := fun y3 y4 μ9 h => k1 (y3, y4, μ9) h
  have kx : ∀ (y3 : Int32) (μ9 : Mm), bd_X12_minuteGoes_65 p0 x3 x4 μ = .inr (y3, μ9) → J E G 5 mX12_minuteGoes Q 97 [(1, rf E p0), (3, .int y3)] [] μ9 := fun y3 μ9 h => k2 (y3, μ9) h
  clear k1 k2
  refine J_iload (dk okX12_minuteGoes 37 rfl) 3 rfl ?_
  refine J_aload_n (dk okX12_minuteGoes 38 rfl) 0 rfl rfl ?_
  refine J_getI (dk okX12_minuteGoes 39 rfl) kfX12_111 ds_49 rfl ?_
  refine J_icmp_ge (tgt := 97) (dk okX12_minuteGoes 40 rfl) (by decide) (fun h1 => ?_) (fun h1 => ?_)
  · exact J_sub [1, 2] rfl (kx x3 μ (by unfold bd_X12_minuteGoes_65; first | (simp only [if_pos h1]; done) | (simp only [if_pos h1]; rfl) | rfl))
  · have t := t h1
    refine J_aload_n (dk okX12_minuteGoes 41 rfl) 1 rfl rfl ?_
    refine J_bipush (v := 7) (dk okX12_minuteGoes 42 rfl) (by decide) ?_
    refine J_iload (dk okX12_minuteGoes 43 rfl) 3 rfl ?_
    refine J_iadd (dk okX12_minuteGoes 44 rfl) ?_
    refine J_dup2 (dk okX12_minuteGoes 45 rfl) rfl rfl ?_
    obtain ⟨s2, t⟩ := t
    refine J_iald (dk okX12_minuteGoes 46 rfl) hp0 s2 ?_
    refine J_aload_n (dk okX12_minuteGoes 47 rfl) 0 rfl rfl ?_
    refine J_getR (dk okX12_minuteGoes 48 rfl) kfX12_62 ds_49 rfl ?_
    refine J_iload (dk okX12_minuteGoes 49 rfl) 3 rfl ?_
    obtain ⟨s3, t⟩ := t
    refine J_iald (dk okX12_minuteGoes 50 rfl) ds_62 s3 ?_
    refine J_iadd (dk okX12_minuteGoes 51 rfl) ?_
    have s4 := t
    refine J_iast (dk okX12_minuteGoes 52 rfl) hp0 s4 ?_
    refine J_nm (fun μ5 eμ5 => ?_)
    refine J_iinc (v := (x4 + 1)) (ls' := [(4, _), (0, _), (1, _), (3, _)]) (dk okX12_minuteGoes 53 rfl) 3 rfl rfl (by decide) rfl ?_
    refine J_goto (tgt := 65) (dk okX12_minuteGoes 54 rfl) (by decide) ?_
    exact J_sub [1, 2, 3, 0] rfl (kb x3 (x4 + 1) μ5 (by subst eμ5; unfold bd_X12_minuteGoes_65; first | (simp only [if_neg h1]; done) | (simp only [if_neg h1]; rfl) | rfl))
/-- VotingFloorModel.minuteGoes([I)I -/
noncomputable def v_X12_minuteGoes (p0 : Nat) (μ : Mm) : Int32 := (let r3 : Int32 × Mm := whl (fun s : Int32 × Int32 × Int32 × Mm => bd_X12_minuteGoes_11 p0 s.1 s.2.1 s.2.2.1 s.2.2.2) (fun s : Int32 × Int32 × Int32 × Mm => (0, s.2.2.2)) FU ((v_X12_moment p0 μ), 0, 0, μ); (let r5 : Int32 × Mm := whl (fun s : Int32 × Int32 × Mm => bd_X12_minuteGoes_65 p0 s.1 s.2.1 s.2.2) (fun s : Int32 × Int32 × Mm => (0, s.2.2)) FU ((r3.1), 0, (r3.2)); (r5.1)))
noncomputable def e_X12_minuteGoes (p0 : Nat) (μ : Mm) : Mm := (let r3 : Int32 × Mm := whl (fun s : Int32 × Int32 × Int32 × Mm => bd_X12_minuteGoes_11 p0 s.1 s.2.1 s.2.2.1 s.2.2.2) (fun s : Int32 × Int32 × Int32 × Mm => (0, s.2.2.2)) FU ((v_X12_moment p0 μ), 0, 0, μ); (let r5 : Int32 × Mm := whl (fun s : Int32 × Int32 × Mm => bd_X12_minuteGoes_65 p0 s.1 s.2.1 s.2.2) (fun s : Int32 × Int32 × Mm => (0, s.2.2)) FU ((r3.1), 0, (r3.2)); (let μ6 : Mm := (upI (r5.2) p0 (Int32.toNatClampNeg 22) (((r5.2).1 p0 (Int32.toNatClampNeg 22)) + 1)); μ6)))
def p_X12_minuteGoes (p0 : Nat)  (μ : Mm) : Prop := (p_X12_moment p0 μ) ∧ (whP (fun s : Int32 × Int32 × Int32 × Mm => bd_X12_minuteGoes_11 p0 s.1 s.2.1 s.2.2.1 s.2.2.2) (fun s : Int32 × Int32 × Int32 × Mm => sd_X12_minuteGoes_11 p0  s.1 s.2.1 s.2.2.1 s.2.2.2) FU ((v_X12_moment p0 μ), 0, 0, μ)) ∧ (∀ r3 : Int32 × Mm, r3 = whl (fun s : Int32 × Int32 × Int32 × Mm => bd_X12_minuteGoes_11 p0 s.1 s.2.1 s.2.2.1 s.2.2.2) (fun s : Int32 × Int32 × Int32 × Mm => (0, s.2.2.2)) FU ((v_X12_moment p0 μ), 0, 0, μ) → whP (fun s : Int32 × Int32 × Mm => bd_X12_minuteGoes_65 p0 s.1 s.2.1 s.2.2) (fun s : Int32 × Int32 × Mm => sd_X12_minuteGoes_65 p0  s.1 s.2.1 s.2.2) FU ((r3.1), 0, (r3.2)))
set_option maxRecDepth 20000 in
set_option maxHeartbeats 4000000 in
theorem con_X12_minuteGoes {E : Ex} {Q : Option Value → Mm → Prop} {p0 : Nat} {μ : Mm} (hp0 : dscL[p0]? = some (.inr (.inl (1, 24)))) (t : p_X12_minuteGoes p0  μ) (k : Q (some (.int (v_X12_minuteGoes p0 μ))) (e_X12_minuteGoes p0 μ)) : Con E 5 mX12_minuteGoes [rf E 49, rf E p0] μ Q := by
  refine Con_J (by decide +kernel) (Nat.le_of_ble_eq_true rfl) (fun G => ?_)
  unfold v_X12_minuteGoes e_X12_minuteGoes at k
  unfold p_X12_minuteGoes at t
  refine J_sub (ls' := [(0, rf E 49), (1, rf E p0)]) [0, 1] rfl ?_
  refine J_aload_n (dk okX12_minuteGoes 0 rfl) 0 rfl rfl ?_
  refine J_aload_n (dk okX12_minuteGoes 1 rfl) 1 rfl rfl ?_
  obtain ⟨s1, t⟩ := t
  refine J_callVi (As := [rf E p0]) (dk okX12_minuteGoes 2 rfl) ds_49 rfl vkX12_moment lkX12_275 rfl rfl (Nat.le_of_ble_eq_true rfl) (by decide) (con_X12_moment hp0 s1 ⟨_, rfl, ?_⟩)
  refine J_istore_n (ls' := [(2, _), (0, _), (1, _)]) (dk okX12_minuteGoes 3 rfl) rfl (by decide) rfl ?_
  refine J_iconst (v := 0) (dk okX12_minuteGoes 4 rfl) (by decide) ?_
  refine J_istore_n (ls' := [(3, _), (2, _), (0, _), (1, _)]) (dk okX12_minuteGoes 5 rfl) rfl (by decide) rfl ?_
  refine J_iconst (v := 0) (dk okX12_minuteGoes 6 rfl) (by decide) ?_
  refine J_istore (ls' := [(4, _), (3, _), (2, _), (0, _), (1, _)]) (dk okX12_minuteGoes 7 rfl) (by decide) rfl ?_
  obtain ⟨s2, t⟩ := t
  refine J_sub (ls' := [(0, _), (1, _), (2, _), (3, _), (4, _)]) [3, 4, 2, 1, 0] rfl ?_
  refine lw_X12_minuteGoes_11 hp0 s2 (fun r3 er3 => ?_)
  have t := t r3 er3
  refine J_iconst (v := 0) (dk okX12_minuteGoes 35 rfl) (by decide) ?_
  refine J_istore (ls' := [(4, _), (0, _), (1, _), (3, _)]) (dk okX12_minuteGoes 36 rfl) (by decide) rfl ?_
  have s4 := t
  refine J_sub (ls' := [(0, _), (1, _), (3, _), (4, _)]) [1, 2, 3, 0] rfl ?_
  refine lw_X12_minuteGoes_65 hp0 s4 (fun r5 er5 => ?_)
  refine J_aload_n (dk okX12_minuteGoes 55 rfl) 0 rfl rfl ?_
  refine J_bipush (v := 22) (dk okX12_minuteGoes 56 rfl) (by decide) ?_
  refine J_dup2 (dk okX12_minuteGoes 57 rfl) rfl rfl ?_
  refine J_iald (dk okX12_minuteGoes 58 rfl) hp0 (by unfold vp_in; decide) ?_
  refine J_iconst (v := 1) (dk okX12_minuteGoes 59 rfl) (by decide) ?_
  refine J_iadd (dk okX12_minuteGoes 60 rfl) ?_
  refine J_iast (dk okX12_minuteGoes 61 rfl) hp0 (by unfold vp_in; decide) ?_
  refine J_nm (fun μ6 eμ6 => ?_)
  refine J_iload_n (dk okX12_minuteGoes 62 rfl) 1 rfl rfl ?_
  subst eμ6 er5 er3
  exact J_iret (dk okX12_minuteGoes 63 rfl) rfl k
/-- VotingFloorModel.one(II)I -/
noncomputable def v_X12_one (p0 : Int32) (p1 : Int32) (μ : Mm) : Int32 := (let μ1 : Mm := (upI μ 49 0 0); (if (v_X12_isOne p0 μ1) = 0 then (v_X12_refuse ) else (if (v_X12_in (Int32.toInt64 p1) 0 5) = 0 then (v_X12_refuse ) else (if p1 = 0 then (μ1.1 51 (Int32.toNatClampNeg p0)) else (if p1 = 1 then (μ1.1 52 (Int32.toNatClampNeg p0)) else (if p1 = 2 then (μ1.1 52 (Int32.toNatClampNeg (7 + p0))) else (if p1 = 3 then (μ1.1 52 (Int32.toNatClampNeg (14 + p0))) else (if p1 = 4 then (v_X12_flag (v_X12_has (μ1.1 52 (Int32.toNatClampNeg 21)) p0)) else (v_X12_walksTo 52 p0 (v_X12_moment 52 μ1) μ1)))))))))
noncomputable def e_X12_one (p0 : Int32) (p1 : Int32) (μ : Mm) : Mm := (let μ1 : Mm := (upI μ 49 0 0); (if (v_X12_isOne p0 μ1) = 0 then (let μ3 : Mm := (e_X12_refuse  μ1); μ3) else (if (v_X12_in (Int32.toInt64 p1) 0 5) = 0 then (let μ5 : Mm := (e_X12_refuse  μ1); μ5) else (if p1 = 0 then μ1 else (if p1 = 1 then μ1 else (if p1 = 2 then μ1 else (if p1 = 3 then μ1 else (if p1 = 4 then μ1 else (let μ18 : Mm := (e_X12_walksTo 52 p0 (v_X12_moment 52 μ1) μ1); μ18)))))))))
def p_X12_one (p0 : Int32) (p1 : Int32)  (μ : Mm) : Prop := (∀ μ1 : Mm, μ1 = (upI μ 49 0 0) → (¬ ((v_X12_isOne p0 μ1) = 0) → (¬ ((v_X12_in (Int32.toInt64 p1) 0 5) = 0) → ((p1 = 0 → vp_in p0 7) ∧ (¬ (p1 = 0) → ((p1 = 1 → vp_in p0 24) ∧ (¬ (p1 = 1) → ((p1 = 2 → vp_in (7 + p0) 24) ∧ (¬ (p1 = 2) → ((p1 = 3 → vp_in (14 + p0) 24) ∧ (¬ (p1 = 3) → (¬ (p1 = 4) → (p_X12_moment 52 μ1) ∧ p_X12_walksTo 52 p0 (v_X12_moment 52 μ1) μ1))))))))))))
set_option maxRecDepth 20000 in
set_option maxHeartbeats 4000000 in
theorem con_X12_one {E : Ex} {Q : Option Value → Mm → Prop} {p0 : Int32} {p1 : Int32} {μ : Mm} (t : p_X12_one p0 p1  μ) (k : Q (some (.int (v_X12_one p0 p1 μ))) (e_X12_one p0 p1 μ)) : Con E 5 mX12_one [rf E 49, .int p0, .int p1] μ Q := by
  refine Con_J (by decide +kernel) (Nat.le_of_ble_eq_true rfl) (fun G => ?_)
  unfold v_X12_one e_X12_one at k
  unfold p_X12_one at t
  refine J_sub (ls' := [(0, rf E 49), (1, .int p0), (2, .int p1)]) [0, 1, 2] rfl ?_
  refine J_aload_n (dk okX12_one 0 rfl) 0 rfl rfl ?_
  refine J_iconst (v := 0) (dk okX12_one 1 rfl) (by decide) ?_
  refine J_put (dk okX12_one 2 rfl) kpX12_3 ds_49 rfl rfl rfl ?_
  refine J_nm (fun μ1 eμ1 => ?_)
  have t := t μ1 eμ1
  refine J_aload_n (dk okX12_one 3 rfl) 0 rfl rfl ?_
  refine J_iload_n (dk okX12_one 4 rfl) 1 rfl rfl ?_
  refine J_callVi (As := [.int p0]) (dk okX12_one 5 rfl) ds_49 rfl vkX12_isOne lkX12_267 rfl rfl (Nat.le_of_ble_eq_true rfl) (by decide) (con_X12_isOne  ⟨_, rfl, ?_⟩)
  refine J_if_eq (tgt := 25) (dk okX12_one 6 rfl) (by decide) (fun h2 => ?_) (fun h2 => ?_)
  · refine J_aload_n (dk okX12_one 13 rfl) 0 rfl rfl ?_
    refine J_callVi (As := []) (dk okX12_one 14 rfl) ds_49 rfl vkX12_refuse lkX12_272 rfl rfl (Nat.le_of_ble_eq_true rfl) (by decide) (con_X12_refuse  ⟨_, rfl, ?_⟩)
    refine J_nm (fun μ3 eμ3 => ?_)
    subst eμ3 eμ1
    (try simp only [if_pos h2] at k ⊢)
    exact J_iret (dk okX12_one 15 rfl) rfl k
  · have t := t h2
    refine J_iload_n (dk okX12_one 7 rfl) 2 rfl rfl ?_
    refine J_i2l (dk okX12_one 8 rfl) ?_
    refine J_lconst (v := 0) (dk okX12_one 9 rfl) (by decide) ?_
    refine J_ldc2 (v := 5) (dk okX12_one 10 rfl) kcX12_270 ?_
    refine J_callSi (As := [.long (Int32.toInt64 p1), .long 0, .long 5]) (dk okX12_one 11 rfl) skX12_in lkX12_114 rfl rfl (Nat.le_of_ble_eq_true rfl) (by decide) (con_X12_in  ⟨_, rfl, ?_⟩)
    refine J_if_ne (tgt := 30) (dk okX12_one 12 rfl) (by decide) (fun h4 => ?_) (fun h4 => ?_)
    · have t := t h4
      refine J_iload_n (dk okX12_one 16 rfl) 2 rfl rfl ?_
      by_cases h7 : p1 = 0
      · have t := t.1 h7
        refine J_at h7 (J_tableIn (x := 0) (off := 33) (tgt := 64) (dk okX12_one 17 rfl) (by decide) (by decide) (by decide) (by decide) ?_)
        refine J_aload_n (dk okX12_one 18 rfl) 0 rfl rfl ?_
        refine J_getR (dk okX12_one 19 rfl) kfX12_28 ds_49 rfl ?_
        refine J_iload_n (dk okX12_one 20 rfl) 1 rfl rfl ?_
        have s8 := t
        refine J_iald (dk okX12_one 21 rfl) ds_51 s8 ?_
        subst eμ1
        (try simp only [if_neg h2, if_neg h4, if_pos h7] at k ⊢)
        exact J_iret (dk okX12_one 22 rfl) rfl k
      · have t := t.2 h7
        by_cases h9 : p1 = 1
        · have t := t.1 h9
          refine J_at h9 (J_tableIn (x := 1) (off := 40) (tgt := 71) (dk okX12_one 17 rfl) (by decide) (by decide) (by decide) (by decide) ?_)
          refine J_aload_n (dk okX12_one 23 rfl) 0 rfl rfl ?_
          refine J_getR (dk okX12_one 24 rfl) kfX12_32 ds_49 rfl ?_
          refine J_iload_n (dk okX12_one 25 rfl) 1 rfl rfl ?_
          have s10 := t
          refine J_iald (dk okX12_one 26 rfl) ds_52 s10 ?_
          subst eμ1
          (try simp only [if_neg h2, if_neg h4, if_neg h7, if_pos h9] at k ⊢)
          exact J_iret (dk okX12_one 27 rfl) rfl k
        · have t := t.2 h9
          by_cases h11 : p1 = 2
          · have t := t.1 h11
            refine J_at h11 (J_tableIn (x := 2) (off := 47) (tgt := 78) (dk okX12_one 17 rfl) (by decide) (by decide) (by decide) (by decide) ?_)
            refine J_aload_n (dk okX12_one 28 rfl) 0 rfl rfl ?_
            refine J_getR (dk okX12_one 29 rfl) kfX12_32 ds_49 rfl ?_
            refine J_bipush (v := 7) (dk okX12_one 30 rfl) (by decide) ?_
            refine J_iload_n (dk okX12_one 31 rfl) 1 rfl rfl ?_
            refine J_iadd (dk okX12_one 32 rfl) ?_
            have s12 := t
            refine J_iald (dk okX12_one 33 rfl) ds_52 s12 ?_
            subst eμ1
            (try simp only [if_neg h2, if_neg h4, if_neg h7, if_neg h9, if_pos h11] at k ⊢)
            exact J_iret (dk okX12_one 34 rfl) rfl k
          · have t := t.2 h11
            by_cases h13 : p1 = 3
            · have t := t.1 h13
              refine J_at h13 (J_tableIn (x := 3) (off := 57) (tgt := 88) (dk okX12_one 17 rfl) (by decide) (by decide) (by decide) (by decide) ?_)
              refine J_aload_n (dk okX12_one 35 rfl) 0 rfl rfl ?_
              refine J_getR (dk okX12_one 36 rfl) kfX12_32 ds_49 rfl ?_
              refine J_bipush (v := 14) (dk okX12_one 37 rfl) (by decide) ?_
              refine J_iload_n (dk okX12_one 38 rfl) 1 rfl rfl ?_
              refine J_iadd (dk okX12_one 39 rfl) ?_
              have s14 := t
              refine J_iald (dk okX12_one 40 rfl) ds_52 s14 ?_
              subst eμ1
              (try simp only [if_neg h2, if_neg h4, if_neg h7, if_neg h9, if_neg h11, if_pos h13] at k ⊢)
              exact J_iret (dk okX12_one 41 rfl) rfl k
            · have t := t.2 h13
              by_cases h15 : p1 = 4
              · refine J_at h15 (J_tableIn (x := 4) (off := 67) (tgt := 98) (dk okX12_one 17 rfl) (by decide) (by decide) (by decide) (by decide) ?_)
                refine J_aload_n (dk okX12_one 42 rfl) 0 rfl rfl ?_
                refine J_getR (dk okX12_one 43 rfl) kfX12_32 ds_49 rfl ?_
                refine J_bipush (v := 21) (dk okX12_one 44 rfl) (by decide) ?_
                refine J_iald (dk okX12_one 45 rfl) ds_52 (by unfold vp_in; decide) ?_
                refine J_iload_n (dk okX12_one 46 rfl) 1 rfl rfl ?_
                refine J_callSi (As := [.int (μ1.1 52 (Int32.toNatClampNeg 21)), .int p0]) (dk okX12_one 47 rfl) skX12_has lkX12_126 rfl rfl (Nat.le_of_ble_eq_true rfl) (by decide) (con_X12_has  ⟨_, rfl, ?_⟩)
                refine J_callSi (As := [.int (v_X12_has (μ1.1 52 (Int32.toNatClampNeg 21)) p0)]) (dk okX12_one 48 rfl) skX12_flag lkX12_137 rfl rfl (Nat.le_of_ble_eq_true rfl) (by decide) (con_X12_flag  ⟨_, rfl, ?_⟩)
                subst eμ1
                (try simp only [if_neg h2, if_neg h4, if_neg h7, if_neg h9, if_neg h11, if_neg h13, if_pos h15] at k ⊢)
                exact J_iret (dk okX12_one 49 rfl) rfl k
              · have t := t h15
                have nh7 := lv_neT (a := 0) h7 (by decide)
                have nh9 := lv_neT (a := 1) h9 (by decide)
                have nh11 := lv_neT (a := 2) h11 (by decide)
                have nh13 := lv_neT (a := 3) h13 (by decide)
                have nh15 := lv_neT (a := 4) h15 (by decide)
                refine J_tableOut (tgt := 113) (dk okX12_one 17 rfl) (by omega) (by decide) ?_
                refine J_aload_n (dk okX12_one 50 rfl) 0 rfl rfl ?_
                refine J_aload_n (dk okX12_one 51 rfl) 0 rfl rfl ?_
                refine J_getR (dk okX12_one 52 rfl) kfX12_32 ds_49 rfl ?_
                refine J_iload_n (dk okX12_one 53 rfl) 1 rfl rfl ?_
                refine J_aload_n (dk okX12_one 54 rfl) 0 rfl rfl ?_
                refine J_aload_n (dk okX12_one 55 rfl) 0 rfl rfl ?_
                refine J_getR (dk okX12_one 56 rfl) kfX12_32 ds_49 rfl ?_
                obtain ⟨s16, t⟩ := t
                refine J_callVi (As := [rf E 52]) (dk okX12_one 57 rfl) ds_49 rfl vkX12_moment lkX12_275 rfl rfl (Nat.le_of_ble_eq_true rfl) (by decide) (con_X12_moment ds_52 s16 ⟨_, rfl, ?_⟩)
                have s17 := t
                refine J_callVi (As := [rf E 52, .int p0, .int (v_X12_moment 52 μ1)]) (dk okX12_one 58 rfl) ds_49 rfl vkX12_walksTo lkX12_278 rfl rfl (Nat.le_of_ble_eq_true rfl) (by decide) (con_X12_walksTo ds_52 s17 ⟨_, rfl, ?_⟩)
                refine J_nm (fun μ18 eμ18 => ?_)
                subst eμ18 eμ1
                (try simp only [if_neg h2, if_neg h4, if_neg h7, if_neg h9, if_neg h11, if_neg h13, if_neg h15] at k ⊢)
                exact J_iret (dk okX12_one 59 rfl) rfl k
    · refine J_aload_n (dk okX12_one 13 rfl) 0 rfl rfl ?_
      refine J_callVi (As := []) (dk okX12_one 14 rfl) ds_49 rfl vkX12_refuse lkX12_272 rfl rfl (Nat.le_of_ble_eq_true rfl) (by decide) (con_X12_refuse  ⟨_, rfl, ?_⟩)
      refine J_nm (fun μ5 eμ5 => ?_)
      subst eμ5 eμ1
      (try simp only [if_neg h2, if_pos h4] at k ⊢)
      exact J_iret (dk okX12_one 15 rfl) rfl k
noncomputable def bd_X12_takesOf_2 (p0 : Nat) (x2 : Int32) (μ : Mm) : (Int32 × Mm) ⊕ (Int32 × Mm) := (if (v_J0_length_8abf5 p0) ≤ x2 then .inr ((-1), μ) else (if (μ.1 49 11) ≤ (μ.1 49 10) then .inr ((-1), μ) else (if (v_J0_charAt_5068e p0 x2) = (μ.1 54 (Int32.toNatClampNeg (μ.1 49 10))) then (let μ6 : Mm := (upI μ 49 10 ((μ.1 49 10) + 1)); .inr (x2, μ6)) else .inl ((x2 + 1), μ))))
def sd_X12_takesOf_2 (p0 : Nat)  (x2 : Int32) (μ : Mm) : Prop := (¬ ((v_J0_length_8abf5 p0) ≤ x2) → (¬ ((μ.1 49 11) ≤ (μ.1 49 10)) → (p_J0_charAt_5068e p0 x2) ∧ vp_in (μ.1 49 10) 80))
set_option maxRecDepth 20000 in
set_option maxHeartbeats 4000000 in
theorem lw_X12_takesOf_2 {E : Ex} {G : Gx} {Q : Option Value → Mm → Prop} {p0 : Nat} {x2 : Int32} {μ : Mm} (hp0 : p0 < strN) (p : whP (fun s : Int32 × Mm => bd_X12_takesOf_2 p0 s.1 s.2) (fun s : Int32 × Mm => sd_X12_takesOf_2 p0  s.1 s.2) FU (x2, μ)) (k : Q (some (.int (whl (fun s : Int32 × Mm => bd_X12_takesOf_2 p0 s.1 s.2) (fun s : Int32 × Mm => (0, s.2)) FU (x2, μ)).1)) (whl (fun s : Int32 × Mm => bd_X12_takesOf_2 p0 s.1 s.2) (fun s : Int32 × Mm => (0, s.2)) FU (x2, μ)).2) : J E G 5 mX12_takesOf Q 2 [(0, rf E 49), (1, sf E p0), (2, .int x2)] [] μ := by
  refine J_whl (f := (fun s : Int32 × Mm => bd_X12_takesOf_2 p0 s.1 s.2)) (dd := (fun s : Int32 × Mm => (0, s.2))) (sd := (fun s : Int32 × Mm => sd_X12_takesOf_2 p0  s.1 s.2)) (P := fun s : Int32 × Mm => J E G 5 mX12_takesOf Q 2 [(0, rf E 49), (1, sf E p0), (2, .int (s.1))] [] (s.2)) (R := fun r : Int32 × Mm => Q (some (.int (r).1)) (r).2) ?_ FU (x2, μ) p k
  clear p k
  rintro ⟨x2, μ⟩ t k1 k2
  dsimp only [sd_X12_takesOf_2] at t
  have kb : ∀ (y2 : Int32) (μ9 : Mm), bd_X12_takesOf_2 p0 x2 μ = .inl (y2, μ9) → J E G 5 mX12_takesOf Q 2 [(0, rf E 49), (1, sf E p0), (2, .int y2)] [] μ9 := fun y2 μ9 h => k1 (y2, μ9) h
  have kx : ∀ (y : Int32) (μ9 : Mm), bd_X12_takesOf_2 p0 x2 μ = .inr (y, μ9) → Q (some (.int y)) μ9 := fun y μ9 h => k2 (y, μ9) h
  clear k1 k2
  refine J_iload_n (dk okX12_takesOf 2 rfl) 2 rfl rfl ?_
  refine J_aload_nS (dk okX12_takesOf 3 rfl) 1 rfl rfl ?_
  refine J_callVSi (As := []) (dk okX12_takesOf 4 rfl) hp0 vkJ0_length_8abf5 lkX12_163 rfl rfl (Nat.le_of_ble_eq_true rfl) (by decide) (con_J0_length_8abf5 hp0 ⟨_, rfl, ?_⟩)
  refine J_icmp_ge (tgt := 56) (dk okX12_takesOf 5 rfl) (by decide) (fun h1 => ?_) (fun h1 => ?_)
  · refine J_iconst (v := (-1)) (dk okX12_takesOf 30 rfl) (by decide) ?_
    exact J_iret (dk okX12_takesOf 31 rfl) rfl (kx (-1) μ (by unfold bd_X12_takesOf_2; first | (simp only [if_pos h1]; done) | (simp only [if_pos h1]; rfl) | rfl))
  · have t := t h1
    refine J_aload_n (dk okX12_takesOf 6 rfl) 0 rfl rfl ?_
    refine J_getI (dk okX12_takesOf 7 rfl) kfX12_144 ds_49 rfl ?_
    refine J_aload_n (dk okX12_takesOf 8 rfl) 0 rfl rfl ?_
    refine J_getI (dk okX12_takesOf 9 rfl) kfX12_156 ds_49 rfl ?_
    refine J_icmp_ge (tgt := 56) (dk okX12_takesOf 10 rfl) (by decide) (fun h2 => ?_) (fun h2 => ?_)
    · refine J_iconst (v := (-1)) (dk okX12_takesOf 30 rfl) (by decide) ?_
      exact J_iret (dk okX12_takesOf 31 rfl) rfl (kx (-1) μ (by unfold bd_X12_takesOf_2; first | (simp only [if_neg h1, if_pos h2]; done) | (simp only [if_neg h1, if_pos h2]; rfl) | rfl))
    · have t := t h2
      refine J_aload_nS (dk okX12_takesOf 11 rfl) 1 rfl rfl ?_
      refine J_iload_n (dk okX12_takesOf 12 rfl) 2 rfl rfl ?_
      obtain ⟨s3, t⟩ := t
      refine J_callVSi (As := [.int x2]) (dk okX12_takesOf 13 rfl) hp0 vkJ0_charAt_5068e lkX12_168 rfl rfl (Nat.le_of_ble_eq_true rfl) (by decide) (con_J0_charAt_5068e hp0 s3 ⟨_, rfl, ?_⟩)
      refine J_aload_n (dk okX12_takesOf 14 rfl) 0 rfl rfl ?_
      refine J_getR (dk okX12_takesOf 15 rfl) kfX12_38 ds_49 rfl ?_
      refine J_aload_n (dk okX12_takesOf 16 rfl) 0 rfl rfl ?_
      refine J_getI (dk okX12_takesOf 17 rfl) kfX12_144 ds_49 rfl ?_
      have s4 := t
      refine J_iald (dk okX12_takesOf 18 rfl) ds_54 s4 ?_
      refine J_icmp_ne (tgt := 50) (dk okX12_takesOf 19 rfl) (by decide) (fun h5 => ?_) (fun h5 => ?_)
      · refine J_iinc (v := (x2 + 1)) (ls' := [(2, _), (0, _), (1, _)]) (dk okX12_takesOf 28 rfl) 2 rfl rfl (by decide) rfl ?_
        refine J_goto (tgt := 2) (dk okX12_takesOf 29 rfl) (by decide) ?_
        exact J_sub [1, 2, 0] rfl (kb (x2 + 1) μ (by unfold bd_X12_takesOf_2; first | (simp only [if_neg h1, if_neg h2, if_neg h5]; done) | (simp only [if_neg h1, if_neg h2, if_neg h5]; rfl) | rfl))
      · refine J_aload_n (dk okX12_takesOf 20 rfl) 0 rfl rfl ?_
        refine J_dup (dk okX12_takesOf 21 rfl) rfl ?_
        refine J_getI (dk okX12_takesOf 22 rfl) kfX12_144 ds_49 rfl ?_
        refine J_iconst (v := 1) (dk okX12_takesOf 23 rfl) (by decide) ?_
        refine J_iadd (dk okX12_takesOf 24 rfl) ?_
        refine J_put (dk okX12_takesOf 25 rfl) kpX12_144 ds_49 rfl rfl rfl ?_
        refine J_nm (fun μ6 eμ6 => ?_)
        refine J_iload_n (dk okX12_takesOf 26 rfl) 2 rfl rfl ?_
        exact J_iret (dk okX12_takesOf 27 rfl) rfl (kx x2 μ6 (by subst eμ6; unfold bd_X12_takesOf_2; first | (simp only [if_neg h1, if_neg h2, if_pos h5]; done) | (simp only [if_neg h1, if_neg h2, if_pos h5]; rfl) | rfl))
/-- VotingFloorModel.takesOf(Ljava/lang/String;)I -/
noncomputable def v_X12_takesOf (p0 : Nat) (μ : Mm) : Int32 := (whl (fun s : Int32 × Mm => bd_X12_takesOf_2 p0 s.1 s.2) (fun s : Int32 × Mm => (0, s.2)) FU (0, μ)).1
noncomputable def e_X12_takesOf (p0 : Nat) (μ : Mm) : Mm := (whl (fun s : Int32 × Mm => bd_X12_takesOf_2 p0 s.1 s.2) (fun s : Int32 × Mm => (0, s.2)) FU (0, μ)).2
def p_X12_takesOf (p0 : Nat)  (μ : Mm) : Prop := whP (fun s : Int32 × Mm => bd_X12_takesOf_2 p0 s.1 s.2) (fun s : Int32 × Mm => sd_X12_takesOf_2 p0  s.1 s.2) FU (0, μ)
set_option maxRecDepth 20000 in
set_option maxHeartbeats 4000000 in
theorem con_X12_takesOf {E : Ex} {Q : Option Value → Mm → Prop} {p0 : Nat} {μ : Mm} (hp0 : p0 < strN) (t : p_X12_takesOf p0  μ) (k : Q (some (.int (v_X12_takesOf p0 μ))) (e_X12_takesOf p0 μ)) : Con E 5 mX12_takesOf [rf E 49, sf E p0] μ Q := by
  refine Con_J (by decide +kernel) (Nat.le_of_ble_eq_true rfl) (fun G => ?_)
  unfold v_X12_takesOf e_X12_takesOf at k
  unfold p_X12_takesOf at t
  refine J_sub (ls' := [(0, rf E 49), (1, sf E p0)]) [0, 1] rfl ?_
  refine J_iconst (v := 0) (dk okX12_takesOf 0 rfl) (by decide) ?_
  refine J_istore_n (ls' := [(2, _), (0, _), (1, _)]) (dk okX12_takesOf 1 rfl) rfl (by decide) rfl ?_
  have s1 := t
  refine J_sub (ls' := [(0, _), (1, _), (2, _)]) [1, 2, 0] rfl ?_
  exact lw_X12_takesOf_2 hp0 s1 k
noncomputable def bd_X12_tips_11  (μ : Mm) (x1 : Int32) (x2 : Int32) (x3 : Int32) : (Int32 × Int32 × Int32) ⊕ (Int32 × Int32) := (if (μ.1 49 3) ≤ x3 then .inr (x1, x2) else .inl ((x1 ||| (if (μ.1 52 (Int32.toNatClampNeg (7 + x3))) ≤ 0 then 0 else (1 <<< (x3 &&& 31)) : Int32)), (x2 ||| (if 0 ≤ (μ.1 52 (Int32.toNatClampNeg (7 + x3))) then 0 else (1 <<< (x3 &&& 31)) : Int32)), (x3 + 1)))
def sd_X12_tips_11   (μ : Mm) (x1 : Int32) (x2 : Int32) (x3 : Int32) : Prop := (¬ ((μ.1 49 3) ≤ x3) → (vp_in (7 + x3) 24) ∧ vp_in (7 + x3) 24)
set_option maxRecDepth 20000 in
set_option maxHeartbeats 4000000 in
theorem lw_X12_tips_11 {E : Ex} {G : Gx} {Q : Option Value → Mm → Prop} {x1 : Int32} {x2 : Int32} {x3 : Int32} {μ : Mm}  (p : whP (fun s : Int32 × Int32 × Int32 => bd_X12_tips_11  μ s.1 s.2.1 s.2.2) (fun s : Int32 × Int32 × Int32 => sd_X12_tips_11   μ s.1 s.2.1 s.2.2) FU (x1, x2, x3)) (k : ∀ r : Int32 × Int32, r = whl (fun s : Int32 × Int32 × Int32 => bd_X12_tips_11  μ s.1 s.2.1 s.2.2) (fun _ : Int32 × Int32 × Int32 => (0, 0)) FU (x1, x2, x3) → J E G 5 mX12_tips Q 69 [(0, rf E 49), (1, .int (r.1)), (2, .int (r.2))] [] μ) : J E G 5 mX12_tips Q 11 [(0, rf E 49), (1, .int x1), (2, .int x2), (3, .int x3)] [] μ := by
  refine J_whl (f := (fun s : Int32 × Int32 × Int32 => bd_X12_tips_11  μ s.1 s.2.1 s.2.2)) (dd := (fun _ : Int32 × Int32 × Int32 => (0, 0))) (sd := (fun s : Int32 × Int32 × Int32 => sd_X12_tips_11   μ s.1 s.2.1 s.2.2)) (P := fun s : Int32 × Int32 × Int32 => J E G 5 mX12_tips Q 11 [(0, rf E 49), (1, .int (s.1)), (2, .int (s.2.1)), (3, .int (s.2.2))] [] (μ)) (R := fun r : Int32 × Int32 => J E G 5 mX12_tips Q 69 [(0, rf E 49), (1, .int (r.1)), (2, .int (r.2))] [] μ) ?_ FU (x1, x2, x3) p (k _ rfl)
  clear p k
  rintro ⟨x1, x2, x3⟩ t k1 k2
  dsimp only [sd_X12_tips_11] at t
  have kb : ∀ (y1 : Int32) (y2 : Int32) (y3 : Int32) , bd_X12_tips_11  μ x1 x2 x3 = .inl (y1, y2, y3) → J E G 5 mX12_tips Q 11 [(0, rf E 49), (1, .int y1), (2, .int y2), (3, .int y3)] [] μ := fun y1 y2 y3  h => k1 (y1, y2, y3) h
  have kx : ∀ (y1 : Int32) (y2 : Int32) , bd_X12_tips_11  μ x1 x2 x3 = .inr (y1, y2) → J E G 5 mX12_tips Q 69 [(0, rf E 49), (1, .int y1), (2, .int y2)] [] μ := fun y1 y2  h => k2 (y1, y2) h
  clear k1 k2
  refine J_iload_n (dk okX12_tips 9 rfl) 3 rfl rfl ?_
  refine J_aload_n (dk okX12_tips 10 rfl) 0 rfl rfl ?_
  refine J_getI (dk okX12_tips 11 rfl) kfX12_111 ds_49 rfl ?_
  refine J_icmp_ge (tgt := 69) (dk okX12_tips 12 rfl) (by decide) (fun h1 => ?_) (fun h1 => ?_)
  · exact J_sub [0, 1, 2] rfl (kx x1 x2 (by unfold bd_X12_tips_11; first | (simp only [if_pos h1]; done) | (simp only [if_pos h1]; rfl) | rfl))
  · have t := t h1
    refine J_iload_n (dk okX12_tips 13 rfl) 1 rfl rfl ?_
    refine J_aload_n (dk okX12_tips 14 rfl) 0 rfl rfl ?_
    refine J_getR (dk okX12_tips 15 rfl) kfX12_32 ds_49 rfl ?_
    refine J_bipush (v := 7) (dk okX12_tips 16 rfl) (by decide) ?_
    refine J_iload_n (dk okX12_tips 17 rfl) 3 rfl rfl ?_
    refine J_iadd (dk okX12_tips 18 rfl) ?_
    obtain ⟨s2, t⟩ := t
    refine J_iald (dk okX12_tips 19 rfl) ds_52 s2 ?_
    have K4 : J E G 5 mX12_tips Q 39 [(0, rf E 49), (2, .int x2), (3, .int x3)] [.int (if (μ.1 52 (Int32.toNatClampNeg (7 + x3))) ≤ 0 then 0 else (1 <<< (x3 &&& 31)) : Int32), .int x1] μ := by
      refine J_ior (dk okX12_tips 26 rfl) ?_
      refine J_istore_n (ls' := [(1, _), (0, _), (2, _), (3, _)]) (dk okX12_tips 27 rfl) rfl (by decide) rfl ?_
      refine J_iload_n (dk okX12_tips 28 rfl) 2 rfl rfl ?_
      refine J_aload_n (dk okX12_tips 29 rfl) 1 rfl rfl ?_
      refine J_getR (dk okX12_tips 30 rfl) kfX12_32 ds_49 rfl ?_
      refine J_bipush (v := 7) (dk okX12_tips 31 rfl) (by decide) ?_
      refine J_iload_n (dk okX12_tips 32 rfl) 3 rfl rfl ?_
      refine J_iadd (dk okX12_tips 33 rfl) ?_
      have s5 := t
      refine J_iald (dk okX12_tips 34 rfl) ds_52 s5 ?_
      have K7 : J E G 5 mX12_tips Q 61 [(0, rf E 49), (1, .int (x1 ||| (if (μ.1 52 (Int32.toNatClampNeg (7 + x3))) ≤ 0 then 0 else (1 <<< (x3 &&& 31)) : Int32))), (3, .int x3)] [.int (if 0 ≤ (μ.1 52 (Int32.toNatClampNeg (7 + x3))) then 0 else (1 <<< (x3 &&& 31)) : Int32), .int x2] μ := by
        refine J_ior (dk okX12_tips 41 rfl) ?_
        refine J_istore_n (ls' := [(2, _), (0, _), (1, _), (3, _)]) (dk okX12_tips 42 rfl) rfl (by decide) rfl ?_
        refine J_iinc (v := (x3 + 1)) (ls' := [(3, _), (2, _), (0, _), (1, _)]) (dk okX12_tips 43 rfl) 3 rfl rfl (by decide) rfl ?_
        refine J_goto (tgt := 11) (dk okX12_tips 44 rfl) (by decide) ?_
        exact J_sub [2, 3, 1, 0] rfl (kb (x1 ||| (if (μ.1 52 (Int32.toNatClampNeg (7 + x3))) ≤ 0 then 0 else (1 <<< (x3 &&& 31)) : Int32)) (x2 ||| (if 0 ≤ (μ.1 52 (Int32.toNatClampNeg (7 + x3))) then 0 else (1 <<< (x3 &&& 31)) : Int32)) (x3 + 1) (by unfold bd_X12_tips_11; first | (simp only [if_neg h1]; done) | (simp only [if_neg h1]; rfl) | rfl))
      refine J_if_ge (tgt := 60) (dk okX12_tips 35 rfl) (by decide) (fun h6 => ?_) (fun h6 => ?_)
      · refine J_iconst (v := 0) (dk okX12_tips 40 rfl) (by decide) ?_
        refine J_sub (ls' := [(0, _), (1, _), (3, _)]) [1, 0, 3] rfl ?_
        (try simp only [if_pos h6] at K7 ⊢); exact K7
      · refine J_iconst (v := 1) (dk okX12_tips 36 rfl) (by decide) ?_
        refine J_iload_n (dk okX12_tips 37 rfl) 3 rfl rfl ?_
        refine J_ishl (dk okX12_tips 38 rfl) ?_
        refine J_goto (tgt := 61) (dk okX12_tips 39 rfl) (by decide) ?_
        refine J_sub (ls' := [(0, _), (1, _), (3, _)]) [1, 0, 3] rfl ?_
        (try simp only [if_neg h6] at K7 ⊢); exact K7
    refine J_if_le (tgt := 38) (dk okX12_tips 20 rfl) (by decide) (fun h3 => ?_) (fun h3 => ?_)
    · refine J_iconst (v := 0) (dk okX12_tips 25 rfl) (by decide) ?_
      refine J_sub (ls' := [(0, _), (2, _), (3, _)]) [0, 2, 3] rfl ?_
      (try simp only [if_pos h3] at K4 ⊢); exact K4
    · refine J_iconst (v := 1) (dk okX12_tips 21 rfl) (by decide) ?_
      refine J_iload_n (dk okX12_tips 22 rfl) 3 rfl rfl ?_
      refine J_ishl (dk okX12_tips 23 rfl) ?_
      refine J_goto (tgt := 39) (dk okX12_tips 24 rfl) (by decide) ?_
      refine J_sub (ls' := [(0, _), (2, _), (3, _)]) [0, 2, 3] rfl ?_
      (try simp only [if_neg h3] at K4 ⊢); exact K4
/-- VotingFloorModel.tips()I -/
noncomputable def v_X12_tips  (μ : Mm) : Int32 := (let μ1 : Mm := (upI μ 49 0 0); (let r3 : Int32 × Int32 := whl (fun s : Int32 × Int32 × Int32 => bd_X12_tips_11  μ1 s.1 s.2.1 s.2.2) (fun _ : Int32 × Int32 × Int32 => (0, 0)) FU (0, 0, 0); (let μ4 : Mm := (upI μ1 49 1 0); (let μ7 : Mm := (e_X12_enters (Int32.toInt64 (v_X12_momentOf 52 (r3.1) μ4)) μ4); (let μ10 : Mm := (e_X12_enters (Int32.toInt64 (-(v_X12_momentOf 52 (r3.2) μ7))) μ7); (let μ14 : Mm := (e_X12_enters (Int32.toInt64 (v_X12_loadOf 52 (v_X12_standingOn 52 0 μ10) μ10)) μ10); (v_X12_side (v_X12_moment 52 μ14))))))))
noncomputable def e_X12_tips  (μ : Mm) : Mm := (let μ1 : Mm := (upI μ 49 0 0); (let r3 : Int32 × Int32 := whl (fun s : Int32 × Int32 × Int32 => bd_X12_tips_11  μ1 s.1 s.2.1 s.2.2) (fun _ : Int32 × Int32 × Int32 => (0, 0)) FU (0, 0, 0); (let μ4 : Mm := (upI μ1 49 1 0); (let μ7 : Mm := (e_X12_enters (Int32.toInt64 (v_X12_momentOf 52 (r3.1) μ4)) μ4); (let μ10 : Mm := (e_X12_enters (Int32.toInt64 (-(v_X12_momentOf 52 (r3.2) μ7))) μ7); (let μ14 : Mm := (e_X12_enters (Int32.toInt64 (v_X12_loadOf 52 (v_X12_standingOn 52 0 μ10) μ10)) μ10); μ14))))))
def p_X12_tips   (μ : Mm) : Prop := (∀ μ1 : Mm, μ1 = (upI μ 49 0 0) → (whP (fun s : Int32 × Int32 × Int32 => bd_X12_tips_11  μ1 s.1 s.2.1 s.2.2) (fun s : Int32 × Int32 × Int32 => sd_X12_tips_11   μ1 s.1 s.2.1 s.2.2) FU (0, 0, 0)) ∧ (∀ r3 : Int32 × Int32, r3 = whl (fun s : Int32 × Int32 × Int32 => bd_X12_tips_11  μ1 s.1 s.2.1 s.2.2) (fun _ : Int32 × Int32 × Int32 => (0, 0)) FU (0, 0, 0) → (∀ μ4 : Mm, μ4 = (upI μ1 49 1 0) → (p_X12_momentOf 52 (r3.1) μ4) ∧ (p_X12_enters (Int32.toInt64 (v_X12_momentOf 52 (r3.1) μ4)) μ4) ∧ (∀ μ7 : Mm, μ7 = (e_X12_enters (Int32.toInt64 (v_X12_momentOf 52 (r3.1) μ4)) μ4) → (p_X12_momentOf 52 (r3.2) μ7) ∧ (p_X12_enters (Int32.toInt64 (-(v_X12_momentOf 52 (r3.2) μ7))) μ7) ∧ (∀ μ10 : Mm, μ10 = (e_X12_enters (Int32.toInt64 (-(v_X12_momentOf 52 (r3.2) μ7))) μ7) → (p_X12_standingOn 52 0 μ10) ∧ (p_X12_loadOf 52 (v_X12_standingOn 52 0 μ10) μ10) ∧ (p_X12_enters (Int32.toInt64 (v_X12_loadOf 52 (v_X12_standingOn 52 0 μ10) μ10)) μ10) ∧ (∀ μ14 : Mm, μ14 = (e_X12_enters (Int32.toInt64 (v_X12_loadOf 52 (v_X12_standingOn 52 0 μ10) μ10)) μ10) → p_X12_moment 52 μ14))))))
set_option maxRecDepth 20000 in
set_option maxHeartbeats 4000000 in
theorem con_X12_tips {E : Ex} {Q : Option Value → Mm → Prop} {μ : Mm} (t : p_X12_tips   μ) (k : Q (some (.int (v_X12_tips  μ))) (e_X12_tips  μ)) : Con E 5 mX12_tips [rf E 49] μ Q := by
  refine Con_J (by decide +kernel) (Nat.le_of_ble_eq_true rfl) (fun G => ?_)
  unfold v_X12_tips e_X12_tips at k
  unfold p_X12_tips at t
  refine J_sub (ls' := [(0, rf E 49)]) [0] rfl ?_
  refine J_aload_n (dk okX12_tips 0 rfl) 0 rfl rfl ?_
  refine J_iconst (v := 0) (dk okX12_tips 1 rfl) (by decide) ?_
  refine J_put (dk okX12_tips 2 rfl) kpX12_3 ds_49 rfl rfl rfl ?_
  refine J_nm (fun μ1 eμ1 => ?_)
  have t := t μ1 eμ1
  refine J_iconst (v := 0) (dk okX12_tips 3 rfl) (by decide) ?_
  refine J_istore_n (ls' := [(1, _), (0, _)]) (dk okX12_tips 4 rfl) rfl (by decide) rfl ?_
  refine J_iconst (v := 0) (dk okX12_tips 5 rfl) (by decide) ?_
  refine J_istore_n (ls' := [(2, _), (1, _), (0, _)]) (dk okX12_tips 6 rfl) rfl (by decide) rfl ?_
  refine J_iconst (v := 0) (dk okX12_tips 7 rfl) (by decide) ?_
  refine J_istore_n (ls' := [(3, _), (2, _), (1, _), (0, _)]) (dk okX12_tips 8 rfl) rfl (by decide) rfl ?_
  obtain ⟨s2, t⟩ := t
  refine J_sub (ls' := [(0, _), (1, _), (2, _), (3, _)]) [3, 2, 1, 0] rfl ?_
  refine lw_X12_tips_11  s2 (fun r3 er3 => ?_)
  have t := t r3 er3
  refine J_aload_n (dk okX12_tips 45 rfl) 0 rfl rfl ?_
  refine J_iconst (v := 0) (dk okX12_tips 46 rfl) (by decide) ?_
  refine J_put (dk okX12_tips 47 rfl) kpX12_15 ds_49 rfl rfl rfl ?_
  refine J_nm (fun μ4 eμ4 => ?_)
  have t := t μ4 eμ4
  refine J_aload_n (dk okX12_tips 48 rfl) 0 rfl rfl ?_
  refine J_aload_n (dk okX12_tips 49 rfl) 0 rfl rfl ?_
  refine J_aload_n (dk okX12_tips 50 rfl) 0 rfl rfl ?_
  refine J_getR (dk okX12_tips 51 rfl) kfX12_32 ds_49 rfl ?_
  refine J_iload_n (dk okX12_tips 52 rfl) 1 rfl rfl ?_
  obtain ⟨s5, t⟩ := t
  refine J_callVi (As := [rf E 52, .int (r3.1)]) (dk okX12_tips 53 rfl) ds_49 rfl vkX12_momentOf lkX12_134 rfl rfl (Nat.le_of_ble_eq_true rfl) (by decide) (con_X12_momentOf ds_52 s5 ⟨_, rfl, ?_⟩)
  refine J_i2l (dk okX12_tips 54 rfl) ?_
  obtain ⟨s6, t⟩ := t
  refine J_callVv (As := [.long (Int32.toInt64 (v_X12_momentOf 52 (r3.1) μ4))]) (dk okX12_tips 55 rfl) ds_49 rfl vkX12_enters lkX12_18 rfl rfl (Nat.le_of_ble_eq_true rfl) (by decide) (con_X12_enters s6 ⟨rfl, ?_⟩)
  refine J_nm (fun μ7 eμ7 => ?_)
  have t := t μ7 eμ7
  refine J_aload_n (dk okX12_tips 56 rfl) 0 rfl rfl ?_
  refine J_aload_n (dk okX12_tips 57 rfl) 0 rfl rfl ?_
  refine J_aload_n (dk okX12_tips 58 rfl) 0 rfl rfl ?_
  refine J_getR (dk okX12_tips 59 rfl) kfX12_32 ds_49 rfl ?_
  refine J_iload_n (dk okX12_tips 60 rfl) 2 rfl rfl ?_
  obtain ⟨s8, t⟩ := t
  refine J_callVi (As := [rf E 52, .int (r3.2)]) (dk okX12_tips 61 rfl) ds_49 rfl vkX12_momentOf lkX12_134 rfl rfl (Nat.le_of_ble_eq_true rfl) (by decide) (con_X12_momentOf ds_52 s8 ⟨_, rfl, ?_⟩)
  refine J_ineg (dk okX12_tips 62 rfl) ?_
  refine J_i2l (dk okX12_tips 63 rfl) ?_
  obtain ⟨s9, t⟩ := t
  refine J_callVv (As := [.long (Int32.toInt64 (-(v_X12_momentOf 52 (r3.2) μ7)))]) (dk okX12_tips 64 rfl) ds_49 rfl vkX12_enters lkX12_18 rfl rfl (Nat.le_of_ble_eq_true rfl) (by decide) (con_X12_enters s9 ⟨rfl, ?_⟩)
  refine J_nm (fun μ10 eμ10 => ?_)
  have t := t μ10 eμ10
  refine J_aload_n (dk okX12_tips 65 rfl) 0 rfl rfl ?_
  refine J_aload_n (dk okX12_tips 66 rfl) 0 rfl rfl ?_
  refine J_aload_n (dk okX12_tips 67 rfl) 0 rfl rfl ?_
  refine J_getR (dk okX12_tips 68 rfl) kfX12_32 ds_49 rfl ?_
  refine J_aload_n (dk okX12_tips 69 rfl) 0 rfl rfl ?_
  refine J_aload_n (dk okX12_tips 70 rfl) 0 rfl rfl ?_
  refine J_getR (dk okX12_tips 71 rfl) kfX12_32 ds_49 rfl ?_
  refine J_iconst (v := 0) (dk okX12_tips 72 rfl) (by decide) ?_
  obtain ⟨s11, t⟩ := t
  refine J_callVi (As := [rf E 52, .int 0]) (dk okX12_tips 73 rfl) ds_49 rfl vkX12_standingOn lkX12_312 rfl rfl (Nat.le_of_ble_eq_true rfl) (by decide) (con_X12_standingOn ds_52 s11 ⟨_, rfl, ?_⟩)
  obtain ⟨s12, t⟩ := t
  refine J_callVi (As := [rf E 52, .int (v_X12_standingOn 52 0 μ10)]) (dk okX12_tips 74 rfl) ds_49 rfl vkX12_loadOf lkX12_343 rfl rfl (Nat.le_of_ble_eq_true rfl) (by decide) (con_X12_loadOf ds_52 s12 ⟨_, rfl, ?_⟩)
  refine J_i2l (dk okX12_tips 75 rfl) ?_
  obtain ⟨s13, t⟩ := t
  refine J_callVv (As := [.long (Int32.toInt64 (v_X12_loadOf 52 (v_X12_standingOn 52 0 μ10) μ10))]) (dk okX12_tips 76 rfl) ds_49 rfl vkX12_enters lkX12_18 rfl rfl (Nat.le_of_ble_eq_true rfl) (by decide) (con_X12_enters s13 ⟨rfl, ?_⟩)
  refine J_nm (fun μ14 eμ14 => ?_)
  have t := t μ14 eμ14
  refine J_aload_n (dk okX12_tips 77 rfl) 0 rfl rfl ?_
  refine J_aload_n (dk okX12_tips 78 rfl) 0 rfl rfl ?_
  refine J_getR (dk okX12_tips 79 rfl) kfX12_32 ds_49 rfl ?_
  have s15 := t
  refine J_callVi (As := [rf E 52]) (dk okX12_tips 80 rfl) ds_49 rfl vkX12_moment lkX12_275 rfl rfl (Nat.le_of_ble_eq_true rfl) (by decide) (con_X12_moment ds_52 s15 ⟨_, rfl, ?_⟩)
  refine J_callSi (As := [.int (v_X12_moment 52 μ14)]) (dk okX12_tips 81 rfl) skX12_side lkX12_260 rfl rfl (Nat.le_of_ble_eq_true rfl) (by decide) (con_X12_side  ⟨_, rfl, ?_⟩)
  subst eμ14 eμ10 eμ7 eμ4 er3 eμ1
  exact J_iret (dk okX12_tips 82 rfl) rfl k
noncomputable def bd_X12_walks_49  (μ : Mm) (x1 : Int32) (x2 : Int32) (x3 : Int32) : (Int32 × Int32 × Int32) ⊕ (Int32 × Int32 × Int32) := (if 126 < x3 then .inr (x1, x2, x3) else (if 0 < (x2 + (μ.1 66 (Int32.toNatClampNeg (v_X12_slot 0 x3)))) then .inr (x1, x2, x3) else .inl (x1, x2, (x3 + 1))))
def sd_X12_walks_49   (μ : Mm) (x1 : Int32) (x2 : Int32) (x3 : Int32) : Prop := (¬ (126 < x3) → vp_in (v_X12_slot 0 x3) 1016)
set_option maxRecDepth 20000 in
set_option maxHeartbeats 4000000 in
theorem lw_X12_walks_49 {E : Ex} {G : Gx} {Q : Option Value → Mm → Prop} {x1 : Int32} {x2 : Int32} {x3 : Int32} {μ : Mm}  (p : whP (fun s : Int32 × Int32 × Int32 => bd_X12_walks_49  μ s.1 s.2.1 s.2.2) (fun s : Int32 × Int32 × Int32 => sd_X12_walks_49   μ s.1 s.2.1 s.2.2) FU (x1, x2, x3)) (k : ∀ r : Int32 × Int32 × Int32, r = whl (fun s : Int32 × Int32 × Int32 => bd_X12_walks_49  μ s.1 s.2.1 s.2.2) (fun _ : Int32 × Int32 × Int32 => (0, 0, 0)) FU (x1, x2, x3) → J E G 5 mX12_walks Q 76 [(0, rf E 49), (1, .int (r.1)), (2, .int (r.2.1)), (3, .int (r.2.2))] [] μ) : J E G 5 mX12_walks Q 49 [(0, rf E 49), (1, .int x1), (2, .int x2), (3, .int x3)] [] μ := by
  refine J_whl (f := (fun s : Int32 × Int32 × Int32 => bd_X12_walks_49  μ s.1 s.2.1 s.2.2)) (dd := (fun _ : Int32 × Int32 × Int32 => (0, 0, 0))) (sd := (fun s : Int32 × Int32 × Int32 => sd_X12_walks_49   μ s.1 s.2.1 s.2.2)) (P := fun s : Int32 × Int32 × Int32 => J E G 5 mX12_walks Q 49 [(0, rf E 49), (1, .int (s.1)), (2, .int (s.2.1)), (3, .int (s.2.2))] [] (μ)) (R := fun r : Int32 × Int32 × Int32 => J E G 5 mX12_walks Q 76 [(0, rf E 49), (1, .int (r.1)), (2, .int (r.2.1)), (3, .int (r.2.2))] [] μ) ?_ FU (x1, x2, x3) p (k _ rfl)
  clear p k
  rintro ⟨x1, x2, x3⟩ t k1 k2
  dsimp only [sd_X12_walks_49] at t
  have kb : ∀ (y1 : Int32) (y2 : Int32) (y3 : Int32) , bd_X12_walks_49  μ x1 x2 x3 = .inl (y1, y2, y3) → J E G 5 mX12_walks Q 49 [(0, rf E 49), (1, .int y1), (2, .int y2), (3, .int y3)] [] μ := fun y1 y2 y3  h => k1 (y1, y2, y3) h
  have kx : ∀ (y1 : Int32) (y2 : Int32) (y3 : Int32) , bd_X12_walks_49  μ x1 x2 x3 = .inr (y1, y2, y3) → J E G 5 mX12_walks Q 76 [(0, rf E 49), (1, .int y1), (2, .int y2), (3, .int y3)] [] μ := fun y1 y2 y3  h => k2 (y1, y2, y3) h
  clear k1 k2
  refine J_iload_n (dk okX12_walks 30 rfl) 3 rfl rfl ?_
  refine J_bipush (v := 126) (dk okX12_walks 31 rfl) (by decide) ?_
  refine J_icmp_gt (tgt := 76) (dk okX12_walks 32 rfl) (by decide) (fun h1 => ?_) (fun h1 => ?_)
  · exact J_sub [0, 1, 2, 3] rfl (kx x1 x2 x3 (by unfold bd_X12_walks_49; first | (simp only [if_pos h1]; done) | (simp only [if_pos h1]; rfl) | rfl))
  · have t := t h1
    refine J_iload_n (dk okX12_walks 33 rfl) 2 rfl rfl ?_
    refine J_aload_n (dk okX12_walks 34 rfl) 0 rfl rfl ?_
    refine J_getR (dk okX12_walks 35 rfl) kfX12_74 ds_49 rfl ?_
    refine J_iconst (v := 0) (dk okX12_walks 36 rfl) (by decide) ?_
    refine J_iload_n (dk okX12_walks 37 rfl) 3 rfl rfl ?_
    refine J_callSi (As := [.int 0, .int x3]) (dk okX12_walks 38 rfl) skX12_slot lkX12_356 rfl rfl (Nat.le_of_ble_eq_true rfl) (by decide) (con_X12_slot  ⟨_, rfl, ?_⟩)
    have s2 := t
    refine J_iald (dk okX12_walks 39 rfl) ds_66 s2 ?_
    refine J_iadd (dk okX12_walks 40 rfl) ?_
    refine J_if_gt (tgt := 76) (dk okX12_walks 41 rfl) (by decide) (fun h3 => ?_) (fun h3 => ?_)
    · exact J_sub [0, 1, 2, 3] rfl (kx x1 x2 x3 (by unfold bd_X12_walks_49; first | (simp only [if_neg h1, if_pos h3]; done) | (simp only [if_neg h1, if_pos h3]; rfl) | rfl))
    · refine J_iinc (v := (x3 + 1)) (ls' := [(3, _), (0, _), (1, _), (2, _)]) (dk okX12_walks 42 rfl) 3 rfl rfl (by decide) rfl ?_
      refine J_goto (tgt := 49) (dk okX12_walks 43 rfl) (by decide) ?_
      exact J_sub [1, 2, 3, 0] rfl (kb x1 x2 (x3 + 1) (by unfold bd_X12_walks_49; first | (simp only [if_neg h1, if_neg h3]; done) | (simp only [if_neg h1, if_neg h3]; rfl) | rfl))
noncomputable def bd_X12_walks_119  (μ : Mm) (x1 : Int32) (x2 : Int32) (x3 : Int32) (x4 : Int32) (x5 : Int32) (x6 : Int32) : (Int32 × Int32 × Int32 × Int32 × Int32 × Int32) ⊕ (Int32 × Int32 × Int32 × Int32 × Int32 × Int32) := (if 0 < ((x2 + (x6 * (v_X12_load 52 x5 μ))) + (μ.1 66 (Int32.toNatClampNeg (v_X12_slot (x5 + 1) (x4 - x6))))) then .inr (x1, x2, x3, x4, x5, x6) else .inl (x1, x2, x3, x4, x5, (x6 + (-1))))
def sd_X12_walks_119   (μ : Mm) (x1 : Int32) (x2 : Int32) (x3 : Int32) (x4 : Int32) (x5 : Int32) (x6 : Int32) : Prop := (p_X12_load 52 x5) ∧ vp_in (v_X12_slot (x5 + 1) (x4 - x6)) 1016
set_option maxRecDepth 20000 in
set_option maxHeartbeats 4000000 in
theorem lw_X12_walks_119 {E : Ex} {G : Gx} {Q : Option Value → Mm → Prop} {x1 : Int32} {x2 : Int32} {x3 : Int32} {x4 : Int32} {x5 : Int32} {x6 : Int32} {μ : Mm}  (p : whP (fun s : Int32 × Int32 × Int32 × Int32 × Int32 × Int32 => bd_X12_walks_119  μ s.1 s.2.1 s.2.2.1 s.2.2.2.1 s.2.2.2.2.1 s.2.2.2.2.2) (fun s : Int32 × Int32 × Int32 × Int32 × Int32 × Int32 => sd_X12_walks_119   μ s.1 s.2.1 s.2.2.1 s.2.2.2.1 s.2.2.2.2.1 s.2.2.2.2.2) FU (x1, x2, x3, x4, x5, x6)) (k : ∀ r : Int32 × Int32 × Int32 × Int32 × Int32 × Int32, r = whl (fun s : Int32 × Int32 × Int32 × Int32 × Int32 × Int32 => bd_X12_walks_119  μ s.1 s.2.1 s.2.2.1 s.2.2.2.1 s.2.2.2.2.1 s.2.2.2.2.2) (fun _ : Int32 × Int32 × Int32 × Int32 × Int32 × Int32 => (0, 0, 0, 0, 0, 0)) FU (x1, x2, x3, x4, x5, x6) → J E G 5 mX12_walks Q 161 [(0, rf E 49), (1, .int (r.1)), (2, .int (r.2.1)), (3, .int (r.2.2.1)), (4, .int (r.2.2.2.1)), (5, .int (r.2.2.2.2.1)), (6, .int (r.2.2.2.2.2))] [] μ) : J E G 5 mX12_walks Q 119 [(0, rf E 49), (1, .int x1), (2, .int x2), (3, .int x3), (4, .int x4), (5, .int x5), (6, .int x6)] [] μ := by
  refine J_whl (f := (fun s : Int32 × Int32 × Int32 × Int32 × Int32 × Int32 => bd_X12_walks_119  μ s.1 s.2.1 s.2.2.1 s.2.2.2.1 s.2.2.2.2.1 s.2.2.2.2.2)) (dd := (fun _ : Int32 × Int32 × Int32 × Int32 × Int32 × Int32 => (0, 0, 0, 0, 0, 0))) (sd := (fun s : Int32 × Int32 × Int32 × Int32 × Int32 × Int32 => sd_X12_walks_119   μ s.1 s.2.1 s.2.2.1 s.2.2.2.1 s.2.2.2.2.1 s.2.2.2.2.2)) (P := fun s : Int32 × Int32 × Int32 × Int32 × Int32 × Int32 => J E G 5 mX12_walks Q 119 [(0, rf E 49), (1, .int (s.1)), (2, .int (s.2.1)), (3, .int (s.2.2.1)), (4, .int (s.2.2.2.1)), (5, .int (s.2.2.2.2.1)), (6, .int (s.2.2.2.2.2))] [] (μ)) (R := fun r : Int32 × Int32 × Int32 × Int32 × Int32 × Int32 => J E G 5 mX12_walks Q 161 [(0, rf E 49), (1, .int (r.1)), (2, .int (r.2.1)), (3, .int (r.2.2.1)), (4, .int (r.2.2.2.1)), (5, .int (r.2.2.2.2.1)), (6, .int (r.2.2.2.2.2))] [] μ) ?_ FU (x1, x2, x3, x4, x5, x6) p (k _ rfl)
  clear p k
  rintro ⟨x1, x2, x3, x4, x5, x6⟩ t k1 k2
  dsimp only [sd_X12_walks_119] at t
  have kb : ∀ (y1 : Int32) (y2 : Int32) (y3 : Int32) (y4 : Int32) (y5 : Int32) (y6 : Int32) , bd_X12_walks_119  μ x1 x2 x3 x4 x5 x6 = .inl (y1, y2, y3, y4, y5, y6) → J E G 5 mX12_walks Q 119 [(0, rf E 49), (1, .int y1), (2, .int y2), (3, .int y3), (4, .int y4), (5, .int y5), (6, .int y6)] [] μ := fun y1 y2 y3 y4 y5 y6  h => k1 (y1, y2, y3, y4, y5, y6) h
  have kx : ∀ (y1 : Int32) (y2 : Int32) (y3 : Int32) (y4 : Int32) (y5 : Int32) (y6 : Int32) , bd_X12_walks_119  μ x1 x2 x3 x4 x5 x6 = .inr (y1, y2, y3, y4, y5, y6) → J E G 5 mX12_walks Q 161 [(0, rf E 49), (1, .int y1), (2, .int y2), (3, .int y3), (4, .int y4), (5, .int y5), (6, .int y6)] [] μ := fun y1 y2 y3 y4 y5 y6  h => k2 (y1, y2, y3, y4, y5, y6) h
  clear k1 k2
  refine J_iload_n (dk okX12_walks 67 rfl) 2 rfl rfl ?_
  refine J_iload (dk okX12_walks 68 rfl) 6 rfl ?_
  refine J_aload_n (dk okX12_walks 69 rfl) 0 rfl rfl ?_
  refine J_aload_n (dk okX12_walks 70 rfl) 0 rfl rfl ?_
  refine J_getR (dk okX12_walks 71 rfl) kfX12_32 ds_49 rfl ?_
  refine J_iload (dk okX12_walks 72 rfl) 5 rfl ?_
  obtain ⟨s1, t⟩ := t
  refine J_callVi (As := [rf E 52, .int x5]) (dk okX12_walks 73 rfl) ds_49 rfl vkX12_load lkX12_130 rfl rfl (Nat.le_of_ble_eq_true rfl) (by decide) (con_X12_load ds_52 s1 ⟨_, rfl, ?_⟩)
  refine J_imul (dk okX12_walks 74 rfl) ?_
  refine J_iadd (dk okX12_walks 75 rfl) ?_
  refine J_aload_n (dk okX12_walks 76 rfl) 0 rfl rfl ?_
  refine J_getR (dk okX12_walks 77 rfl) kfX12_74 ds_49 rfl ?_
  refine J_iload (dk okX12_walks 78 rfl) 5 rfl ?_
  refine J_iconst (v := 1) (dk okX12_walks 79 rfl) (by decide) ?_
  refine J_iadd (dk okX12_walks 80 rfl) ?_
  refine J_iload (dk okX12_walks 81 rfl) 4 rfl ?_
  refine J_iload (dk okX12_walks 82 rfl) 6 rfl ?_
  refine J_isub (dk okX12_walks 83 rfl) ?_
  refine J_callSi (As := [.int (x5 + 1), .int (x4 - x6)]) (dk okX12_walks 84 rfl) skX12_slot lkX12_356 rfl rfl (Nat.le_of_ble_eq_true rfl) (by decide) (con_X12_slot  ⟨_, rfl, ?_⟩)
  have s2 := t
  refine J_iald (dk okX12_walks 85 rfl) ds_66 s2 ?_
  refine J_iadd (dk okX12_walks 86 rfl) ?_
  refine J_if_gt (tgt := 161) (dk okX12_walks 87 rfl) (by decide) (fun h3 => ?_) (fun h3 => ?_)
  · exact J_sub [0, 1, 2, 3, 4, 5, 6] rfl (kx x1 x2 x3 x4 x5 x6 (by unfold bd_X12_walks_119; first | (simp only [if_pos h3]; done) | (simp only [if_pos h3]; rfl) | rfl))
  · refine J_iinc (v := (x6 + (-1))) (ls' := [(6, _), (0, _), (1, _), (2, _), (3, _), (4, _), (5, _)]) (dk okX12_walks 88 rfl) 6 rfl rfl (by decide) rfl ?_
    refine J_goto (tgt := 119) (dk okX12_walks 89 rfl) (by decide) ?_
    exact J_sub [1, 2, 3, 4, 5, 6, 0] rfl (kb x1 x2 x3 x4 x5 (x6 + (-1)) (by unfold bd_X12_walks_119; first | (simp only [if_neg h3]; done) | (simp only [if_neg h3]; rfl) | rfl))
noncomputable def bd_X12_walks_96  (x1 : Int32) (x2 : Int32) (x3 : Int32) (x4 : Int32) (x5 : Int32) (μ : Mm) : (Int32 × Int32 × Int32 × Int32 × Int32 × Mm) ⊕ (Int32 × Mm) := (if (μ.1 49 3) ≤ x5 then .inr (x3, μ) else (let r4 : Int32 × Int32 × Int32 × Int32 × Int32 × Int32 := whl (fun s : Int32 × Int32 × Int32 × Int32 × Int32 × Int32 => bd_X12_walks_119  μ s.1 s.2.1 s.2.2.1 s.2.2.2.1 s.2.2.2.2.1 s.2.2.2.2.2) (fun _ : Int32 × Int32 × Int32 × Int32 × Int32 × Int32 => (0, 0, 0, 0, 0, 0)) FU (x1, x2, x3, x4, x5, (if (v_X12_room x1 x5 μ) < x4 then (v_X12_room x1 x5 μ) else x4)); (let μ6 : Mm := (e_X12_enters (Int32.toInt64 (r4.2.2.2.2.2)) μ); .inl ((r4.1), ((r4.2.1) + ((r4.2.2.2.2.2) * (v_X12_load 52 (r4.2.2.2.2.1) μ6))), (r4.2.2.1), ((r4.2.2.2.1) - (r4.2.2.2.2.2)), ((r4.2.2.2.2.1) + 1), μ6))))
def sd_X12_walks_96   (x1 : Int32) (x2 : Int32) (x3 : Int32) (x4 : Int32) (x5 : Int32) (μ : Mm) : Prop := (¬ ((μ.1 49 3) ≤ x5) → (p_X12_room x1 x5) ∧ (whP (fun s : Int32 × Int32 × Int32 × Int32 × Int32 × Int32 => bd_X12_walks_119  μ s.1 s.2.1 s.2.2.1 s.2.2.2.1 s.2.2.2.2.1 s.2.2.2.2.2) (fun s : Int32 × Int32 × Int32 × Int32 × Int32 × Int32 => sd_X12_walks_119   μ s.1 s.2.1 s.2.2.1 s.2.2.2.1 s.2.2.2.2.1 s.2.2.2.2.2) FU (x1, x2, x3, x4, x5, (if (v_X12_room x1 x5 μ) < x4 then (v_X12_room x1 x5 μ) else x4))) ∧ (∀ r4 : Int32 × Int32 × Int32 × Int32 × Int32 × Int32, r4 = whl (fun s : Int32 × Int32 × Int32 × Int32 × Int32 × Int32 => bd_X12_walks_119  μ s.1 s.2.1 s.2.2.1 s.2.2.2.1 s.2.2.2.2.1 s.2.2.2.2.2) (fun _ : Int32 × Int32 × Int32 × Int32 × Int32 × Int32 => (0, 0, 0, 0, 0, 0)) FU (x1, x2, x3, x4, x5, (if (v_X12_room x1 x5 μ) < x4 then (v_X12_room x1 x5 μ) else x4)) → (p_X12_enters (Int32.toInt64 (r4.2.2.2.2.2)) μ) ∧ (∀ μ6 : Mm, μ6 = (e_X12_enters (Int32.toInt64 (r4.2.2.2.2.2)) μ) → p_X12_load 52 (r4.2.2.2.2.1))))
set_option maxRecDepth 20000 in
set_option maxHeartbeats 4000000 in
theorem lw_X12_walks_96 {E : Ex} {G : Gx} {Q : Option Value → Mm → Prop} {x1 : Int32} {x2 : Int32} {x3 : Int32} {x4 : Int32} {x5 : Int32} {μ : Mm}  (p : whP (fun s : Int32 × Int32 × Int32 × Int32 × Int32 × Mm => bd_X12_walks_96  s.1 s.2.1 s.2.2.1 s.2.2.2.1 s.2.2.2.2.1 s.2.2.2.2.2) (fun s : Int32 × Int32 × Int32 × Int32 × Int32 × Mm => sd_X12_walks_96   s.1 s.2.1 s.2.2.1 s.2.2.2.1 s.2.2.2.2.1 s.2.2.2.2.2) FU (x1, x2, x3, x4, x5, μ)) (k : ∀ r : Int32 × Mm, r = whl (fun s : Int32 × Int32 × Int32 × Int32 × Int32 × Mm => bd_X12_walks_96  s.1 s.2.1 s.2.2.1 s.2.2.2.1 s.2.2.2.2.1 s.2.2.2.2.2) (fun s : Int32 × Int32 × Int32 × Int32 × Int32 × Mm => (0, s.2.2.2.2.2)) FU (x1, x2, x3, x4, x5, μ) → J E G 5 mX12_walks Q 197 [(3, .int (r.1))] [] (r.2)) : J E G 5 mX12_walks Q 96 [(0, rf E 49), (1, .int x1), (2, .int x2), (3, .int x3), (4, .int x4), (5, .int x5)] [] μ := by
  refine J_whl (f := (fun s : Int32 × Int32 × Int32 × Int32 × Int32 × Mm => bd_X12_walks_96  s.1 s.2.1 s.2.2.1 s.2.2.2.1 s.2.2.2.2.1 s.2.2.2.2.2)) (dd := (fun s : Int32 × Int32 × Int32 × Int32 × Int32 × Mm => (0, s.2.2.2.2.2))) (sd := (fun s : Int32 × Int32 × Int32 × Int32 × Int32 × Mm => sd_X12_walks_96   s.1 s.2.1 s.2.2.1 s.2.2.2.1 s.2.2.2.2.1 s.2.2.2.2.2)) (P := fun s : Int32 × Int32 × Int32 × Int32 × Int32 × Mm => J E G 5 mX12_walks Q 96 [(0, rf E 49), (1, .int (s.1)), (2, .int (s.2.1)), (3, .int (s.2.2.1)), (4, .int (s.2.2.2.1)), (5, .int (s.2.2.2.2.1))] [] (s.2.2.2.2.2)) (R := fun r : Int32 × Mm => J E G 5 mX12_walks Q 197 [(3, .int (r.1))] [] (r.2)) ?_ FU (x1, x2, x3, x4, x5, μ) p (k _ rfl)
  clear p k
  rintro ⟨x1, x2, x3, x4, x5, μ⟩ t k1 k2
  dsimp only [sd_X12_walks_96] at t
  have kb : ∀ (y1 : Int32) (y2 : Int32) (y3 : Int32) (y4 : Int32) (y5 : Int32) (μ9 : Mm), bd_X12_walks_96  x1 x2 x3 x4 x5 μ = .inl (y1, y2, y3, y4, y5, μ9) → J E G 5 mX12_walks Q 96 [(0, rf E 49), (1, .int y1), (2, .int y2), (3, .int y3), (4, .int y4), (5, .int y5)] [] μ9 := fun y1 y2 y3 y4 y5 μ9 h => k1 (y1, y2, y3, y4, y5, μ9) h
  have kx : ∀ (y3 : Int32) (μ9 : Mm), bd_X12_walks_96  x1 x2 x3 x4 x5 μ = .inr (y3, μ9) → J E G 5 mX12_walks Q 197 [(3, .int y3)] [] μ9 := fun y3 μ9 h => k2 (y3, μ9) h
  clear k1 k2
  refine J_iload (dk okX12_walks 56 rfl) 5 rfl ?_
  refine J_aload_n (dk okX12_walks 57 rfl) 0 rfl rfl ?_
  refine J_getI (dk okX12_walks 58 rfl) kfX12_111 ds_49 rfl ?_
  refine J_icmp_ge (tgt := 197) (dk okX12_walks 59 rfl) (by decide) (fun h1 => ?_) (fun h1 => ?_)
  · exact J_sub [3] rfl (kx x3 μ (by unfold bd_X12_walks_96; first | (simp only [if_pos h1]; done) | (simp only [if_pos h1]; rfl) | rfl))
  · have t := t h1
    refine J_iload (dk okX12_walks 60 rfl) 4 rfl ?_
    refine J_aload_n (dk okX12_walks 61 rfl) 0 rfl rfl ?_
    refine J_iload_n (dk okX12_walks 62 rfl) 1 rfl rfl ?_
    refine J_iload (dk okX12_walks 63 rfl) 5 rfl ?_
    obtain ⟨s2, t⟩ := t
    refine J_callVi (As := [.int x1, .int x5]) (dk okX12_walks 64 rfl) ds_49 rfl vkX12_room lkX12_359 rfl rfl (Nat.le_of_ble_eq_true rfl) (by decide) (con_X12_room s2 ⟨_, rfl, ?_⟩)
    refine J_mmin (dk okX12_walks 65 rfl) lkX12_150 mk_min_s mk_Math mk_min_c (by decide) (Nat.le_of_ble_eq_true rfl) ?_
    refine J_istore (ls' := [(6, _), (0, _), (1, _), (2, _), (3, _), (4, _), (5, _)]) (dk okX12_walks 66 rfl) (by decide) rfl ?_
    obtain ⟨s3, t⟩ := t
    refine J_sub (ls' := [(0, _), (1, _), (2, _), (3, _), (4, _), (5, _), (6, _)]) [1, 2, 3, 4, 5, 6, 0] rfl ?_
    refine lw_X12_walks_119  s3 (fun r4 er4 => ?_)
    have t := t r4 er4
    refine J_aload_n (dk okX12_walks 90 rfl) 0 rfl rfl ?_
    refine J_iload (dk okX12_walks 91 rfl) 6 rfl ?_
    refine J_i2l (dk okX12_walks 92 rfl) ?_
    obtain ⟨s5, t⟩ := t
    refine J_callVv (As := [.long (Int32.toInt64 (r4.2.2.2.2.2))]) (dk okX12_walks 93 rfl) ds_49 rfl vkX12_enters lkX12_18 rfl rfl (Nat.le_of_ble_eq_true rfl) (by decide) (con_X12_enters s5 ⟨rfl, ?_⟩)
    refine J_nm (fun μ6 eμ6 => ?_)
    have t := t μ6 eμ6
    refine J_iload_n (dk okX12_walks 94 rfl) 2 rfl rfl ?_
    refine J_iload (dk okX12_walks 95 rfl) 6 rfl ?_
    refine J_aload_n (dk okX12_walks 96 rfl) 0 rfl rfl ?_
    refine J_aload_n (dk okX12_walks 97 rfl) 0 rfl rfl ?_
    refine J_getR (dk okX12_walks 98 rfl) kfX12_32 ds_49 rfl ?_
    refine J_iload (dk okX12_walks 99 rfl) 5 rfl ?_
    have s7 := t
    refine J_callVi (As := [rf E 52, .int (r4.2.2.2.2.1)]) (dk okX12_walks 100 rfl) ds_49 rfl vkX12_load lkX12_130 rfl rfl (Nat.le_of_ble_eq_true rfl) (by decide) (con_X12_load ds_52 s7 ⟨_, rfl, ?_⟩)
    refine J_imul (dk okX12_walks 101 rfl) ?_
    refine J_iadd (dk okX12_walks 102 rfl) ?_
    refine J_istore_n (ls' := [(2, _), (0, _), (1, _), (3, _), (4, _), (5, _), (6, _)]) (dk okX12_walks 103 rfl) rfl (by decide) rfl ?_
    refine J_iload (dk okX12_walks 104 rfl) 4 rfl ?_
    refine J_iload (dk okX12_walks 105 rfl) 6 rfl ?_
    refine J_isub (dk okX12_walks 106 rfl) ?_
    refine J_istore (ls' := [(4, _), (2, _), (0, _), (1, _), (3, _), (5, _), (6, _)]) (dk okX12_walks 107 rfl) (by decide) rfl ?_
    refine J_iinc (v := ((r4.2.2.2.2.1) + 1)) (ls' := [(5, _), (4, _), (2, _), (0, _), (1, _), (3, _), (6, _)]) (dk okX12_walks 108 rfl) 5 rfl rfl (by decide) rfl ?_
    refine J_goto (tgt := 96) (dk okX12_walks 109 rfl) (by decide) ?_
    exact J_sub [3, 4, 2, 5, 1, 0] rfl (kb (r4.1) ((r4.2.1) + ((r4.2.2.2.2.2) * (v_X12_load 52 (r4.2.2.2.2.1) μ6))) (r4.2.2.1) ((r4.2.2.2.1) - (r4.2.2.2.2.2)) ((r4.2.2.2.2.1) + 1) μ6 (by subst eμ6 er4; unfold bd_X12_walks_96; first | (simp only [if_neg h1]; done) | (simp only [if_neg h1]; rfl) | rfl))
/-- VotingFloorModel.walks(I)I -/
noncomputable def v_X12_walks (p0 : Int32) (μ : Mm) : Int32 := (let μ1 : Mm := (upI μ 49 0 0); (if (v_X12_in (Int32.toInt64 p0) 0 (Int32.toInt64 (v_X12_all  μ1))) = 0 then (-1) else (if (p0 &&& (μ1.1 52 (Int32.toNatClampNeg 21))) = 0 then (let μ5 : Mm := (e_X12_laysWon p0 μ1); (let r8 : Int32 × Int32 × Int32 := whl (fun s : Int32 × Int32 × Int32 => bd_X12_walks_49  μ5 s.1 s.2.1 s.2.2) (fun _ : Int32 × Int32 × Int32 => (0, 0, 0)) FU (p0, (v_X12_moment 52 μ5), 0); (if (r8.2.2) ≤ 126 then (let μ10 : Mm := (upI μ5 49 1 0); (let r12 : Int32 × Mm := whl (fun s : Int32 × Int32 × Int32 × Int32 × Int32 × Mm => bd_X12_walks_96  s.1 s.2.1 s.2.2.1 s.2.2.2.1 s.2.2.2.2.1 s.2.2.2.2.2) (fun s : Int32 × Int32 × Int32 × Int32 × Int32 × Mm => (0, s.2.2.2.2.2)) FU ((r8.1), (r8.2.1), (r8.2.2), (r8.2.2), 0, μ10); (r12.1))) else (-2)))) else (-1))))
noncomputable def e_X12_walks (p0 : Int32) (μ : Mm) : Mm := (let μ1 : Mm := (upI μ 49 0 0); (if (v_X12_in (Int32.toInt64 p0) 0 (Int32.toInt64 (v_X12_all  μ1))) = 0 then μ1 else (if (p0 &&& (μ1.1 52 (Int32.toNatClampNeg 21))) = 0 then (let μ5 : Mm := (e_X12_laysWon p0 μ1); (let r8 : Int32 × Int32 × Int32 := whl (fun s : Int32 × Int32 × Int32 => bd_X12_walks_49  μ5 s.1 s.2.1 s.2.2) (fun _ : Int32 × Int32 × Int32 => (0, 0, 0)) FU (p0, (v_X12_moment 52 μ5), 0); (if (r8.2.2) ≤ 126 then (let μ10 : Mm := (upI μ5 49 1 0); (let r12 : Int32 × Mm := whl (fun s : Int32 × Int32 × Int32 × Int32 × Int32 × Mm => bd_X12_walks_96  s.1 s.2.1 s.2.2.1 s.2.2.2.1 s.2.2.2.2.1 s.2.2.2.2.2) (fun s : Int32 × Int32 × Int32 × Int32 × Int32 × Mm => (0, s.2.2.2.2.2)) FU ((r8.1), (r8.2.1), (r8.2.2), (r8.2.2), 0, μ10); (r12.2))) else μ5))) else μ1)))
def p_X12_walks (p0 : Int32)  (μ : Mm) : Prop := (∀ μ1 : Mm, μ1 = (upI μ 49 0 0) → (¬ ((v_X12_in (Int32.toInt64 p0) 0 (Int32.toInt64 (v_X12_all  μ1))) = 0) → ((p0 &&& (μ1.1 52 (Int32.toNatClampNeg 21))) = 0 → (p_X12_laysWon p0 μ1) ∧ (∀ μ5 : Mm, μ5 = (e_X12_laysWon p0 μ1) → (p_X12_moment 52 μ5) ∧ (whP (fun s : Int32 × Int32 × Int32 => bd_X12_walks_49  μ5 s.1 s.2.1 s.2.2) (fun s : Int32 × Int32 × Int32 => sd_X12_walks_49   μ5 s.1 s.2.1 s.2.2) FU (p0, (v_X12_moment 52 μ5), 0)) ∧ (∀ r8 : Int32 × Int32 × Int32, r8 = whl (fun s : Int32 × Int32 × Int32 => bd_X12_walks_49  μ5 s.1 s.2.1 s.2.2) (fun _ : Int32 × Int32 × Int32 => (0, 0, 0)) FU (p0, (v_X12_moment 52 μ5), 0) → ((r8.2.2) ≤ 126 → (∀ μ10 : Mm, μ10 = (upI μ5 49 1 0) → whP (fun s : Int32 × Int32 × Int32 × Int32 × Int32 × Mm => bd_X12_walks_96  s.1 s.2.1 s.2.2.1 s.2.2.2.1 s.2.2.2.2.1 s.2.2.2.2.2) (fun s : Int32 × Int32 × Int32 × Int32 × Int32 × Mm => sd_X12_walks_96   s.1 s.2.1 s.2.2.1 s.2.2.2.1 s.2.2.2.2.1 s.2.2.2.2.2) FU ((r8.1), (r8.2.1), (r8.2.2), (r8.2.2), 0, μ10))))))))
set_option maxRecDepth 20000 in
set_option maxHeartbeats 4000000 in
theorem con_X12_walks {E : Ex} {Q : Option Value → Mm → Prop} {p0 : Int32} {μ : Mm} (t : p_X12_walks p0  μ) (k : Q (some (.int (v_X12_walks p0 μ))) (e_X12_walks p0 μ)) : Con E 5 mX12_walks [rf E 49, .int p0] μ Q := by
  refine Con_J (by decide +kernel) (Nat.le_of_ble_eq_true rfl) (fun G => ?_)
  unfold v_X12_walks e_X12_walks at k
  unfold p_X12_walks at t
  refine J_sub (ls' := [(0, rf E 49), (1, .int p0)]) [0, 1] rfl ?_
  refine J_aload_n (dk okX12_walks 0 rfl) 0 rfl rfl ?_
  refine J_iconst (v := 0) (dk okX12_walks 1 rfl) (by decide) ?_
  refine J_put (dk okX12_walks 2 rfl) kpX12_3 ds_49 rfl rfl rfl ?_
  refine J_nm (fun μ1 eμ1 => ?_)
  have t := t μ1 eμ1
  refine J_iload_n (dk okX12_walks 3 rfl) 1 rfl rfl ?_
  refine J_i2l (dk okX12_walks 4 rfl) ?_
  refine J_lconst (v := 0) (dk okX12_walks 5 rfl) (by decide) ?_
  refine J_aload_n (dk okX12_walks 6 rfl) 0 rfl rfl ?_
  refine J_callVi (As := []) (dk okX12_walks 7 rfl) ds_49 rfl vkX12_all lkX12_118 rfl rfl (Nat.le_of_ble_eq_true rfl) (by decide) (con_X12_all  ⟨_, rfl, ?_⟩)
  refine J_i2l (dk okX12_walks 8 rfl) ?_
  refine J_callSi (As := [.long (Int32.toInt64 p0), .long 0, .long (Int32.toInt64 (v_X12_all  μ1))]) (dk okX12_walks 9 rfl) skX12_in lkX12_114 rfl rfl (Nat.le_of_ble_eq_true rfl) (by decide) (con_X12_in  ⟨_, rfl, ?_⟩)
  refine J_if_eq (tgt := 31) (dk okX12_walks 10 rfl) (by decide) (fun h2 => ?_) (fun h2 => ?_)
  · refine J_iconst (v := (-1)) (dk okX12_walks 18 rfl) (by decide) ?_
    subst eμ1
    (try simp only [if_pos h2] at k ⊢)
    exact J_iret (dk okX12_walks 19 rfl) rfl k
  · have t := t h2
    refine J_iload_n (dk okX12_walks 11 rfl) 1 rfl rfl ?_
    refine J_aload_n (dk okX12_walks 12 rfl) 0 rfl rfl ?_
    refine J_getR (dk okX12_walks 13 rfl) kfX12_32 ds_49 rfl ?_
    refine J_bipush (v := 21) (dk okX12_walks 14 rfl) (by decide) ?_
    refine J_iald (dk okX12_walks 15 rfl) ds_52 (by unfold vp_in; decide) ?_
    refine J_iand (dk okX12_walks 16 rfl) ?_
    refine J_if_eq (tgt := 33) (dk okX12_walks 17 rfl) (by decide) (fun h3 => ?_) (fun h3 => ?_)
    · have t := t h3
      refine J_aload_n (dk okX12_walks 20 rfl) 0 rfl rfl ?_
      refine J_iload_n (dk okX12_walks 21 rfl) 1 rfl rfl ?_
      obtain ⟨s4, t⟩ := t
      refine J_callVv (As := [.int p0]) (dk okX12_walks 22 rfl) ds_49 rfl vkX12_laysWon lkX12_362 rfl rfl (Nat.le_of_ble_eq_true rfl) (by decide) (con_X12_laysWon s4 ⟨rfl, ?_⟩)
      refine J_nm (fun μ5 eμ5 => ?_)
      have t := t μ5 eμ5
      refine J_aload_n (dk okX12_walks 23 rfl) 0 rfl rfl ?_
      refine J_aload_n (dk okX12_walks 24 rfl) 0 rfl rfl ?_
      refine J_getR (dk okX12_walks 25 rfl) kfX12_32 ds_49 rfl ?_
      obtain ⟨s6, t⟩ := t
      refine J_callVi (As := [rf E 52]) (dk okX12_walks 26 rfl) ds_49 rfl vkX12_moment lkX12_275 rfl rfl (Nat.le_of_ble_eq_true rfl) (by decide) (con_X12_moment ds_52 s6 ⟨_, rfl, ?_⟩)
      refine J_istore_n (ls' := [(2, _), (0, _), (1, _)]) (dk okX12_walks 27 rfl) rfl (by decide) rfl ?_
      refine J_iconst (v := 0) (dk okX12_walks 28 rfl) (by decide) ?_
      refine J_istore_n (ls' := [(3, _), (2, _), (0, _), (1, _)]) (dk okX12_walks 29 rfl) rfl (by decide) rfl ?_
      obtain ⟨s7, t⟩ := t
      refine J_sub (ls' := [(0, _), (1, _), (2, _), (3, _)]) [2, 3, 1, 0] rfl ?_
      refine lw_X12_walks_49  s7 (fun r8 er8 => ?_)
      have t := t r8 er8
      refine J_iload_n (dk okX12_walks 44 rfl) 3 rfl rfl ?_
      refine J_bipush (v := 126) (dk okX12_walks 45 rfl) (by decide) ?_
      refine J_icmp_le (tgt := 85) (dk okX12_walks 46 rfl) (by decide) (fun h9 => ?_) (fun h9 => ?_)
      · have t := t h9
        refine J_aload_n (dk okX12_walks 49 rfl) 0 rfl rfl ?_
        refine J_iconst (v := 0) (dk okX12_walks 50 rfl) (by decide) ?_
        refine J_put (dk okX12_walks 51 rfl) kpX12_15 ds_49 rfl rfl rfl ?_
        refine J_nm (fun μ10 eμ10 => ?_)
        have t := t μ10 eμ10
        refine J_iload_n (dk okX12_walks 52 rfl) 3 rfl rfl ?_
        refine J_istore (ls' := [(4, _), (0, _), (1, _), (2, _), (3, _)]) (dk okX12_walks 53 rfl) (by decide) rfl ?_
        refine J_iconst (v := 0) (dk okX12_walks 54 rfl) (by decide) ?_
        refine J_istore (ls' := [(5, _), (4, _), (0, _), (1, _), (2, _), (3, _)]) (dk okX12_walks 55 rfl) (by decide) rfl ?_
        have s11 := t
        refine J_sub (ls' := [(0, _), (1, _), (2, _), (3, _), (4, _), (5, _)]) [2, 3, 4, 5, 1, 0] rfl ?_
        refine lw_X12_walks_96  s11 (fun r12 er12 => ?_)
        refine J_iload_n (dk okX12_walks 110 rfl) 0 rfl rfl ?_
        subst er12 eμ10 er8 eμ5 eμ1
        (try simp only [if_neg h2, if_pos h3, if_pos h9] at k ⊢)
        exact J_iret (dk okX12_walks 111 rfl) rfl k
      · refine J_bipush (v := (-2)) (dk okX12_walks 47 rfl) (by decide) ?_
        subst er8 eμ5 eμ1
        (try simp only [if_neg h2, if_pos h3, if_neg h9] at k ⊢)
        exact J_iret (dk okX12_walks 48 rfl) rfl k
    · refine J_iconst (v := (-1)) (dk okX12_walks 18 rfl) (by decide) ?_
      subst eμ1
      (try simp only [if_neg h2, if_neg h3] at k ⊢)
      exact J_iret (dk okX12_walks 19 rfl) rfl k
noncomputable def bd_X12_wall_9  (μ : Mm) (x1 : Int32) (x2 : Int32) : (Int32 × Int32) ⊕ (Int32) := (if (v_X12_all  μ) < x2 then .inr x1 else .inl ((if (if (x2 &&& (μ.1 52 (Int32.toNatClampNeg 21))) = 0 then (if (((v_X12_moment 52 μ) - (v_X12_momentOf 52 x2 μ)) + (9 * (v_X12_loadOf 52 x2 μ))) ≤ 0 then 0 else 1 : Int32) else 0 : Int32) = 0 then x1 else (if (v_X12_isFewer x2 x1) = 0 then x1 else x2 : Int32) : Int32), (x2 + 1)))
def sd_X12_wall_9   (μ : Mm) (x1 : Int32) (x2 : Int32) : Prop := (¬ ((v_X12_all  μ) < x2) → ((x2 &&& (μ.1 52 (Int32.toNatClampNeg 21))) = 0 → (p_X12_moment 52 μ) ∧ (p_X12_momentOf 52 x2 μ) ∧ p_X12_loadOf 52 x2 μ))
set_option maxRecDepth 20000 in
set_option maxHeartbeats 4000000 in
theorem lw_X12_wall_9 {E : Ex} {G : Gx} {Q : Option Value → Mm → Prop} {x1 : Int32} {x2 : Int32} {μ : Mm}  (p : whP (fun s : Int32 × Int32 => bd_X12_wall_9  μ s.1 s.2) (fun s : Int32 × Int32 => sd_X12_wall_9   μ s.1 s.2) FU (x1, x2)) (k : ∀ r : Int32, r = whl (fun s : Int32 × Int32 => bd_X12_wall_9  μ s.1 s.2) (fun _ : Int32 × Int32 => 0) FU (x1, x2) → J E G 5 mX12_wall Q 93 [(0, rf E 49), (1, .int r)] [] μ) : J E G 5 mX12_wall Q 9 [(0, rf E 49), (1, .int x1), (2, .int x2)] [] μ := by
  refine J_whl (f := (fun s : Int32 × Int32 => bd_X12_wall_9  μ s.1 s.2)) (dd := (fun _ : Int32 × Int32 => 0)) (sd := (fun s : Int32 × Int32 => sd_X12_wall_9   μ s.1 s.2)) (P := fun s : Int32 × Int32 => J E G 5 mX12_wall Q 9 [(0, rf E 49), (1, .int (s.1)), (2, .int (s.2))] [] (μ)) (R := fun r : Int32 => J E G 5 mX12_wall Q 93 [(0, rf E 49), (1, .int r)] [] μ) ?_ FU (x1, x2) p (k _ rfl)
  clear p k
  rintro ⟨x1, x2⟩ t k1 k2
  dsimp only [sd_X12_wall_9] at t
  have kb : ∀ (y1 : Int32) (y2 : Int32) , bd_X12_wall_9  μ x1 x2 = .inl (y1, y2) → J E G 5 mX12_wall Q 9 [(0, rf E 49), (1, .int y1), (2, .int y2)] [] μ := fun y1 y2  h => k1 (y1, y2) h
  have kx : ∀ (y1 : Int32) , bd_X12_wall_9  μ x1 x2 = .inr y1 → J E G 5 mX12_wall Q 93 [(0, rf E 49), (1, .int y1)] [] μ := fun y1  h => k2 y1 h
  clear k1 k2
  refine J_iload_n (dk okX12_wall 7 rfl) 2 rfl rfl ?_
  refine J_aload_n (dk okX12_wall 8 rfl) 0 rfl rfl ?_
  refine J_callVi (As := []) (dk okX12_wall 9 rfl) ds_49 rfl vkX12_all lkX12_118 rfl rfl (Nat.le_of_ble_eq_true rfl) (by decide) (con_X12_all  ⟨_, rfl, ?_⟩)
  refine J_icmp_gt (tgt := 93) (dk okX12_wall 10 rfl) (by decide) (fun h1 => ?_) (fun h1 => ?_)
  · exact J_sub [0, 1] rfl (kx x1 (by unfold bd_X12_wall_9; first | (simp only [if_pos h1]; done) | (simp only [if_pos h1]; rfl) | rfl))
  · have t := t h1
    refine J_iload_n (dk okX12_wall 11 rfl) 2 rfl rfl ?_
    refine J_aload_n (dk okX12_wall 12 rfl) 0 rfl rfl ?_
    refine J_getR (dk okX12_wall 13 rfl) kfX12_32 ds_49 rfl ?_
    refine J_bipush (v := 21) (dk okX12_wall 14 rfl) (by decide) ?_
    refine J_iald (dk okX12_wall 15 rfl) ds_52 (by unfold vp_in; decide) ?_
    refine J_iand (dk okX12_wall 16 rfl) ?_
    have K7 : J E G 5 mX12_wall Q 68 [(0, rf E 49), (1, .int x1), (2, .int x2)] [.int (if (x2 &&& (μ.1 52 (Int32.toNatClampNeg 21))) = 0 then (if (((v_X12_moment 52 μ) - (v_X12_momentOf 52 x2 μ)) + (9 * (v_X12_loadOf 52 x2 μ))) ≤ 0 then 0 else 1 : Int32) else 0 : Int32)] μ := by
      refine J_istore_n (ls' := [(3, _), (0, _), (1, _), (2, _)]) (dk okX12_wall 40 rfl) rfl (by decide) rfl ?_
      refine J_iload_n (dk okX12_wall 41 rfl) 0 rfl rfl ?_
      have K10 : J E G 5 mX12_wall Q 86 [(0, rf E 49), (2, .int x2)] [.int (if (if (x2 &&& (μ.1 52 (Int32.toNatClampNeg 21))) = 0 then (if (((v_X12_moment 52 μ) - (v_X12_momentOf 52 x2 μ)) + (9 * (v_X12_loadOf 52 x2 μ))) ≤ 0 then 0 else 1 : Int32) else 0 : Int32) = 0 then x1 else (if (v_X12_isFewer x2 x1) = 0 then x1 else x2 : Int32) : Int32)] μ := by
        refine J_istore_n (ls' := [(1, _), (0, _), (2, _)]) (dk okX12_wall 50 rfl) rfl (by decide) rfl ?_
        refine J_iinc (v := (x2 + 1)) (ls' := [(2, _), (1, _), (0, _)]) (dk okX12_wall 51 rfl) 2 rfl rfl (by decide) rfl ?_
        refine J_goto (tgt := 9) (dk okX12_wall 52 rfl) (by decide) ?_
        exact J_sub [2, 1, 0] rfl (kb (if (if (x2 &&& (μ.1 52 (Int32.toNatClampNeg 21))) = 0 then (if (((v_X12_moment 52 μ) - (v_X12_momentOf 52 x2 μ)) + (9 * (v_X12_loadOf 52 x2 μ))) ≤ 0 then 0 else 1 : Int32) else 0 : Int32) = 0 then x1 else (if (v_X12_isFewer x2 x1) = 0 then x1 else x2 : Int32) : Int32) (x2 + 1) (by unfold bd_X12_wall_9; first | (simp only [if_neg h1]; done) | (simp only [if_neg h1]; rfl) | rfl))
      refine J_if_eq (tgt := 85) (dk okX12_wall 42 rfl) (by decide) (fun h8 => ?_) (fun h8 => ?_)
      · refine J_iload_n (dk okX12_wall 49 rfl) 2 rfl rfl ?_
        refine J_sub (ls' := [(0, _), (2, _)]) [1, 3] rfl ?_
        (try simp only [if_pos h8] at K10 ⊢); exact K10
      · refine J_iload_n (dk okX12_wall 43 rfl) 3 rfl rfl ?_
        refine J_iload_n (dk okX12_wall 44 rfl) 2 rfl rfl ?_
        refine J_callSi (As := [.int x2, .int x1]) (dk okX12_wall 45 rfl) skX12_isFewer lkX12_365 rfl rfl (Nat.le_of_ble_eq_true rfl) (by decide) (con_X12_isFewer  ⟨_, rfl, ?_⟩)
        refine J_if_eq (tgt := 85) (dk okX12_wall 46 rfl) (by decide) (fun h9 => ?_) (fun h9 => ?_)
        · refine J_iload_n (dk okX12_wall 49 rfl) 2 rfl rfl ?_
          refine J_sub (ls' := [(0, _), (2, _)]) [1, 3] rfl ?_
          (try simp only [if_neg h8, if_pos h9] at K10 ⊢); exact K10
        · refine J_iload_n (dk okX12_wall 47 rfl) 3 rfl rfl ?_
          refine J_goto (tgt := 86) (dk okX12_wall 48 rfl) (by decide) ?_
          refine J_sub (ls' := [(0, _), (2, _)]) [1, 3] rfl ?_
          (try simp only [if_neg h8, if_neg h9] at K10 ⊢); exact K10
    refine J_if_ne (tgt := 67) (dk okX12_wall 17 rfl) (by decide) (fun h2 => ?_) (fun h2 => ?_)
    · refine J_iconst (v := 0) (dk okX12_wall 39 rfl) (by decide) ?_
      refine J_sub (ls' := [(0, _), (1, _), (2, _)]) [0, 1, 2] rfl ?_
      (try simp only [if_neg h2] at K7 ⊢); exact K7
    · have t := t h2
      refine J_aload_n (dk okX12_wall 18 rfl) 0 rfl rfl ?_
      refine J_aload_n (dk okX12_wall 19 rfl) 0 rfl rfl ?_
      refine J_getR (dk okX12_wall 20 rfl) kfX12_32 ds_49 rfl ?_
      obtain ⟨s3, t⟩ := t
      refine J_callVi (As := [rf E 52]) (dk okX12_wall 21 rfl) ds_49 rfl vkX12_moment lkX12_275 rfl rfl (Nat.le_of_ble_eq_true rfl) (by decide) (con_X12_moment ds_52 s3 ⟨_, rfl, ?_⟩)
      refine J_aload_n (dk okX12_wall 22 rfl) 0 rfl rfl ?_
      refine J_aload_n (dk okX12_wall 23 rfl) 0 rfl rfl ?_
      refine J_getR (dk okX12_wall 24 rfl) kfX12_32 ds_49 rfl ?_
      refine J_iload_n (dk okX12_wall 25 rfl) 2 rfl rfl ?_
      obtain ⟨s4, t⟩ := t
      refine J_callVi (As := [rf E 52, .int x2]) (dk okX12_wall 26 rfl) ds_49 rfl vkX12_momentOf lkX12_134 rfl rfl (Nat.le_of_ble_eq_true rfl) (by decide) (con_X12_momentOf ds_52 s4 ⟨_, rfl, ?_⟩)
      refine J_isub (dk okX12_wall 27 rfl) ?_
      refine J_bipush (v := 9) (dk okX12_wall 28 rfl) (by decide) ?_
      refine J_aload_n (dk okX12_wall 29 rfl) 0 rfl rfl ?_
      refine J_aload_n (dk okX12_wall 30 rfl) 0 rfl rfl ?_
      refine J_getR (dk okX12_wall 31 rfl) kfX12_32 ds_49 rfl ?_
      refine J_iload_n (dk okX12_wall 32 rfl) 2 rfl rfl ?_
      have s5 := t
      refine J_callVi (As := [rf E 52, .int x2]) (dk okX12_wall 33 rfl) ds_49 rfl vkX12_loadOf lkX12_343 rfl rfl (Nat.le_of_ble_eq_true rfl) (by decide) (con_X12_loadOf ds_52 s5 ⟨_, rfl, ?_⟩)
      refine J_imul (dk okX12_wall 34 rfl) ?_
      refine J_iadd (dk okX12_wall 35 rfl) ?_
      refine J_if_le (tgt := 67) (dk okX12_wall 36 rfl) (by decide) (fun h6 => ?_) (fun h6 => ?_)
      · refine J_iconst (v := 0) (dk okX12_wall 39 rfl) (by decide) ?_
        refine J_sub (ls' := [(0, _), (1, _), (2, _)]) [0, 1, 2] rfl ?_
        (try simp only [if_pos h2, if_pos h6] at K7 ⊢); exact K7
      · refine J_iconst (v := 1) (dk okX12_wall 37 rfl) (by decide) ?_
        refine J_goto (tgt := 68) (dk okX12_wall 38 rfl) (by decide) ?_
        refine J_sub (ls' := [(0, _), (1, _), (2, _)]) [0, 1, 2] rfl ?_
        (try simp only [if_pos h2, if_neg h6] at K7 ⊢); exact K7
/-- VotingFloorModel.wall()I -/
noncomputable def v_X12_wall  (μ : Mm) : Int32 := (let μ1 : Mm := (upI μ 49 0 0); (let r3 : Int32 := whl (fun s : Int32 × Int32 => bd_X12_wall_9  μ1 s.1 s.2) (fun _ : Int32 × Int32 => 0) FU ((-1), 0); (v_X12_entersFewest r3)))
noncomputable def e_X12_wall  (μ : Mm) : Mm := (let μ1 : Mm := (upI μ 49 0 0); (let r3 : Int32 := whl (fun s : Int32 × Int32 => bd_X12_wall_9  μ1 s.1 s.2) (fun _ : Int32 × Int32 => 0) FU ((-1), 0); (let μ5 : Mm := (e_X12_entersFewest r3 μ1); μ5)))
def p_X12_wall   (μ : Mm) : Prop := (∀ μ1 : Mm, μ1 = (upI μ 49 0 0) → (whP (fun s : Int32 × Int32 => bd_X12_wall_9  μ1 s.1 s.2) (fun s : Int32 × Int32 => sd_X12_wall_9   μ1 s.1 s.2) FU ((-1), 0)) ∧ (∀ r3 : Int32, r3 = whl (fun s : Int32 × Int32 => bd_X12_wall_9  μ1 s.1 s.2) (fun _ : Int32 × Int32 => 0) FU ((-1), 0) → p_X12_entersFewest r3 μ1))
set_option maxRecDepth 20000 in
set_option maxHeartbeats 4000000 in
theorem con_X12_wall {E : Ex} {Q : Option Value → Mm → Prop} {μ : Mm} (t : p_X12_wall   μ) (k : Q (some (.int (v_X12_wall  μ))) (e_X12_wall  μ)) : Con E 5 mX12_wall [rf E 49] μ Q := by
  refine Con_J (by decide +kernel) (Nat.le_of_ble_eq_true rfl) (fun G => ?_)
  unfold v_X12_wall e_X12_wall at k
  unfold p_X12_wall at t
  refine J_sub (ls' := [(0, rf E 49)]) [0] rfl ?_
  refine J_aload_n (dk okX12_wall 0 rfl) 0 rfl rfl ?_
  refine J_iconst (v := 0) (dk okX12_wall 1 rfl) (by decide) ?_
  refine J_put (dk okX12_wall 2 rfl) kpX12_3 ds_49 rfl rfl rfl ?_
  refine J_nm (fun μ1 eμ1 => ?_)
  have t := t μ1 eμ1
  refine J_iconst (v := (-1)) (dk okX12_wall 3 rfl) (by decide) ?_
  refine J_istore_n (ls' := [(1, _), (0, _)]) (dk okX12_wall 4 rfl) rfl (by decide) rfl ?_
  refine J_iconst (v := 0) (dk okX12_wall 5 rfl) (by decide) ?_
  refine J_istore_n (ls' := [(2, _), (1, _), (0, _)]) (dk okX12_wall 6 rfl) rfl (by decide) rfl ?_
  obtain ⟨s2, t⟩ := t
  refine J_sub (ls' := [(0, _), (1, _), (2, _)]) [2, 1, 0] rfl ?_
  refine lw_X12_wall_9  s2 (fun r3 er3 => ?_)
  have t := t r3 er3
  refine J_aload_n (dk okX12_wall 53 rfl) 0 rfl rfl ?_
  refine J_iload_n (dk okX12_wall 54 rfl) 1 rfl rfl ?_
  have s4 := t
  refine J_callVi (As := [.int r3]) (dk okX12_wall 55 rfl) ds_49 rfl vkX12_entersFewest lkX12_368 rfl rfl (Nat.le_of_ble_eq_true rfl) (by decide) (con_X12_entersFewest s4 ⟨_, rfl, ?_⟩)
  refine J_nm (fun μ5 eμ5 => ?_)
  subst eμ5 er3 eμ1
  exact J_iret (dk okX12_wall 56 rfl) rfl k
noncomputable def bd_X1_go_5 (b : Nat) (p1 : Nat) (x1 : Int32) (x3 : Int32) (x4 : Int32) (μ : Mm) : (Int32 × Int32 × Int32 × Mm) ⊕ (Int32 × Mm) := (if x1 ≤ x4 then .inr (x3, μ) else (let μ3 : Mm := (e_X1_pass b p1 μ); .inl (x1, (x3 + (v_X1_pass b p1 μ)), (x4 + 1), μ3)))
def sd_X1_go_5 (b : Nat) (p1 : Nat)  (x1 : Int32) (x3 : Int32) (x4 : Int32) (μ : Mm) : Prop := (¬ (x1 ≤ x4) → p_X1_pass b p1 μ)
set_option maxRecDepth 20000 in
set_option maxHeartbeats 4000000 in
theorem lw_X1_go_5 {E : Ex} {G : Gx} {Q : Option Value → Mm → Prop} {b : Nat} {p1 : Nat} {x1 : Int32} {x3 : Int32} {x4 : Int32} {μ : Mm} (hb : FloorAt b) (hp1 : RuleAt p1) (p : whP (fun s : Int32 × Int32 × Int32 × Mm => bd_X1_go_5 b p1 s.1 s.2.1 s.2.2.1 s.2.2.2) (fun s : Int32 × Int32 × Int32 × Mm => sd_X1_go_5 b p1  s.1 s.2.1 s.2.2.1 s.2.2.2) FU (x1, x3, x4, μ)) (k : ∀ r : Int32 × Mm, r = whl (fun s : Int32 × Int32 × Int32 × Mm => bd_X1_go_5 b p1 s.1 s.2.1 s.2.2.1 s.2.2.2) (fun s : Int32 × Int32 × Int32 × Mm => (0, s.2.2.2)) FU (x1, x3, x4, μ) → J E G 5 mX1_go Q 25 [(3, .int (r.1))] [] (r.2)) : J E G 5 mX1_go Q 5 [(0, rf E b), (1, .int x1), (2, rf E p1), (3, .int x3), (4, .int x4)] [] μ := by
  refine J_whl (f := (fun s : Int32 × Int32 × Int32 × Mm => bd_X1_go_5 b p1 s.1 s.2.1 s.2.2.1 s.2.2.2)) (dd := (fun s : Int32 × Int32 × Int32 × Mm => (0, s.2.2.2))) (sd := (fun s : Int32 × Int32 × Int32 × Mm => sd_X1_go_5 b p1  s.1 s.2.1 s.2.2.1 s.2.2.2)) (P := fun s : Int32 × Int32 × Int32 × Mm => J E G 5 mX1_go Q 5 [(0, rf E b), (1, .int (s.1)), (2, rf E p1), (3, .int (s.2.1)), (4, .int (s.2.2.1))] [] (s.2.2.2)) (R := fun r : Int32 × Mm => J E G 5 mX1_go Q 25 [(3, .int (r.1))] [] (r.2)) ?_ FU (x1, x3, x4, μ) p (k _ rfl)
  clear p k
  rintro ⟨x1, x3, x4, μ⟩ t k1 k2
  dsimp only [sd_X1_go_5] at t
  have kb : ∀ (y1 : Int32) (y3 : Int32) (y4 : Int32) (μ9 : Mm), bd_X1_go_5 b p1 x1 x3 x4 μ = .inl (y1, y3, y4, μ9) → J E G 5 mX1_go Q 5 [(0, rf E b), (1, .int y1), (2, rf E p1), (3, .int y3), (4, .int y4)] [] μ9 := fun y1 y3 y4 μ9 h => k1 (y1, y3, y4, μ9) h
  have kx : ∀ (y3 : Int32) (μ9 : Mm), bd_X1_go_5 b p1 x1 x3 x4 μ = .inr (y3, μ9) → J E G 5 mX1_go Q 25 [(3, .int y3)] [] μ9 := fun y3 μ9 h => k2 (y3, μ9) h
  clear k1 k2
  refine J_iload (dk okX1_go 4 rfl) 4 rfl ?_
  refine J_iload_n (dk okX1_go 5 rfl) 1 rfl rfl ?_
  refine J_icmp_ge (tgt := 25) (dk okX1_go 6 rfl) (by decide) (fun h1 => ?_) (fun h1 => ?_)
  · exact J_sub [3] rfl (kx x3 μ (by unfold bd_X1_go_5; first | (simp only [if_pos h1]; done) | (simp only [if_pos h1]; rfl) | rfl))
  · have t := t h1
    refine J_iload_n (dk okX1_go 7 rfl) 3 rfl rfl ?_
    refine J_aload_n (dk okX1_go 8 rfl) 0 rfl rfl ?_
    refine J_aload_n (dk okX1_go 9 rfl) 2 rfl rfl ?_
    have s2 := t
    refine J_callVi (As := [rf E p1]) (dk okX1_go 10 rfl) hb.1 rfl vkX1_pass lkX1_77 rfl rfl (Nat.le_of_ble_eq_true rfl) (by decide) (con_X1_pass hb hp1 s2 ⟨_, rfl, ?_⟩)
    refine J_nm (fun μ3 eμ3 => ?_)
    refine J_iadd (dk okX1_go 11 rfl) ?_
    refine J_istore_n (ls' := [(3, _), (0, _), (1, _), (2, _), (4, _)]) (dk okX1_go 12 rfl) rfl (by decide) rfl ?_
    refine J_iinc (v := (x4 + 1)) (ls' := [(4, _), (3, _), (0, _), (1, _), (2, _)]) (dk okX1_go 13 rfl) 4 rfl rfl (by decide) rfl ?_
    refine J_goto (tgt := 5) (dk okX1_go 14 rfl) (by decide) ?_
    exact J_sub [2, 3, 4, 1, 0] rfl (kb x1 (x3 + (v_X1_pass b p1 μ)) (x4 + 1) μ3 (by subst eμ3; unfold bd_X1_go_5; first | (simp only [if_neg h1]; done) | (simp only [if_neg h1]; rfl) | rfl))
/-- VotingFloor$Floor.go(ILVotingFloor$Rule;)I -/
noncomputable def v_X1_go (b : Nat) (p0 : Int32) (p1 : Nat) (μ : Mm) : Int32 := (let r2 : Int32 × Mm := whl (fun s : Int32 × Int32 × Int32 × Mm => bd_X1_go_5 b p1 s.1 s.2.1 s.2.2.1 s.2.2.2) (fun s : Int32 × Int32 × Int32 × Mm => (0, s.2.2.2)) FU (p0, 0, 0, μ); (r2.1))
noncomputable def e_X1_go (b : Nat) (p0 : Int32) (p1 : Nat) (μ : Mm) : Mm := (let r2 : Int32 × Mm := whl (fun s : Int32 × Int32 × Int32 × Mm => bd_X1_go_5 b p1 s.1 s.2.1 s.2.2.1 s.2.2.2) (fun s : Int32 × Int32 × Int32 × Mm => (0, s.2.2.2)) FU (p0, 0, 0, μ); (r2.2))
def p_X1_go (b : Nat) (p0 : Int32) (p1 : Nat)  (μ : Mm) : Prop := whP (fun s : Int32 × Int32 × Int32 × Mm => bd_X1_go_5 b p1 s.1 s.2.1 s.2.2.1 s.2.2.2) (fun s : Int32 × Int32 × Int32 × Mm => sd_X1_go_5 b p1  s.1 s.2.1 s.2.2.1 s.2.2.2) FU (p0, 0, 0, μ)
set_option maxRecDepth 20000 in
set_option maxHeartbeats 4000000 in
theorem con_X1_go {E : Ex} {Q : Option Value → Mm → Prop} {b : Nat} {p0 : Int32} {p1 : Nat} {μ : Mm} (hb : FloorAt b) (hp1 : RuleAt p1) (t : p_X1_go b p0 p1  μ) (k : Q (some (.int (v_X1_go b p0 p1 μ))) (e_X1_go b p0 p1 μ)) : Con E 5 mX1_go [rf E b, .int p0, rf E p1] μ Q := by
  refine Con_J (by decide +kernel) (Nat.le_of_ble_eq_true rfl) (fun G => ?_)
  unfold v_X1_go e_X1_go at k
  unfold p_X1_go at t
  refine J_sub (ls' := [(0, rf E b), (1, .int p0), (2, rf E p1)]) [0, 1, 2] rfl ?_
  refine J_iconst (v := 0) (dk okX1_go 0 rfl) (by decide) ?_
  refine J_istore_n (ls' := [(3, _), (0, _), (1, _), (2, _)]) (dk okX1_go 1 rfl) rfl (by decide) rfl ?_
  refine J_iconst (v := 0) (dk okX1_go 2 rfl) (by decide) ?_
  refine J_istore (ls' := [(4, _), (3, _), (0, _), (1, _), (2, _)]) (dk okX1_go 3 rfl) (by decide) rfl ?_
  have s1 := t
  refine J_sub (ls' := [(0, _), (1, _), (2, _), (3, _), (4, _)]) [2, 3, 4, 1, 0] rfl ?_
  refine lw_X1_go_5 hb hp1 s1 (fun r2 er2 => ?_)
  refine J_iload_n (dk okX1_go 15 rfl) 0 rfl rfl ?_
  subst er2
  exact J_iret (dk okX1_go 16 rfl) rfl k
noncomputable def bd_X1_goTillNoon_12 (b : Nat) (p0 : Nat) (x2 : Int32) (x3 : Int32) (μ : Mm) : (Int32 × Int32 × Mm) ⊕ (Mm) := (if x2 ≤ x3 then .inr μ else (let μ3 : Mm := (e_X1_pass b p0 μ); .inl (x2, (x3 + 1), μ3)))
def sd_X1_goTillNoon_12 (b : Nat) (p0 : Nat)  (x2 : Int32) (x3 : Int32) (μ : Mm) : Prop := (¬ (x2 ≤ x3) → p_X1_pass b p0 μ)
set_option maxRecDepth 20000 in
set_option maxHeartbeats 4000000 in
theorem lw_X1_goTillNoon_12 {E : Ex} {G : Gx} {Q : Option Value → Mm → Prop} {b : Nat} {p0 : Nat} {x2 : Int32} {x3 : Int32} {μ : Mm} (hb : FloorAt b) (hp0 : RuleAt p0) (p : whP (fun s : Int32 × Int32 × Mm => bd_X1_goTillNoon_12 b p0 s.1 s.2.1 s.2.2) (fun s : Int32 × Int32 × Mm => sd_X1_goTillNoon_12 b p0  s.1 s.2.1 s.2.2) FU (x2, x3, μ)) (k : ∀ r : Mm, r = whl (fun s : Int32 × Int32 × Mm => bd_X1_goTillNoon_12 b p0 s.1 s.2.1 s.2.2) (fun s : Int32 × Int32 × Mm => s.2.2) FU (x2, x3, μ) → J E G 5 mX1_goTillNoon Q 29 [(0, rf E b)] [] r) : J E G 5 mX1_goTillNoon Q 12 [(0, rf E b), (1, rf E p0), (2, .int x2), (3, .int x3)] [] μ := by
  refine J_whl (f := (fun s : Int32 × Int32 × Mm => bd_X1_goTillNoon_12 b p0 s.1 s.2.1 s.2.2)) (dd := (fun s : Int32 × Int32 × Mm => s.2.2)) (sd := (fun s : Int32 × Int32 × Mm => sd_X1_goTillNoon_12 b p0  s.1 s.2.1 s.2.2)) (P := fun s : Int32 × Int32 × Mm => J E G 5 mX1_goTillNoon Q 12 [(0, rf E b), (1, rf E p0), (2, .int (s.1)), (3, .int (s.2.1))] [] (s.2.2)) (R := fun r : Mm => J E G 5 mX1_goTillNoon Q 29 [(0, rf E b)] [] r) ?_ FU (x2, x3, μ) p (k _ rfl)
  clear p k
  rintro ⟨x2, x3, μ⟩ t k1 k2
  dsimp only [sd_X1_goTillNoon_12] at t
  have kb : ∀ (y2 : Int32) (y3 : Int32) (μ9 : Mm), bd_X1_goTillNoon_12 b p0 x2 x3 μ = .inl (y2, y3, μ9) → J E G 5 mX1_goTillNoon Q 12 [(0, rf E b), (1, rf E p0), (2, .int y2), (3, .int y3)] [] μ9 := fun y2 y3 μ9 h => k1 (y2, y3, μ9) h
  have kx : ∀  (μ9 : Mm), bd_X1_goTillNoon_12 b p0 x2 x3 μ = .inr μ9 → J E G 5 mX1_goTillNoon Q 29 [(0, rf E b)] [] μ9 := fun  μ9 h => k2 μ9 h
  clear k1 k2
  refine J_iload_n (dk okX1_goTillNoon 8 rfl) 3 rfl rfl ?_
  refine J_iload_n (dk okX1_goTillNoon 9 rfl) 2 rfl rfl ?_
  refine J_icmp_ge (tgt := 29) (dk okX1_goTillNoon 10 rfl) (by decide) (fun h1 => ?_) (fun h1 => ?_)
  · exact J_sub [0] rfl (kx μ (by unfold bd_X1_goTillNoon_12; first | (simp only [if_pos h1]; done) | (simp only [if_pos h1]; rfl) | rfl))
  · have t := t h1
    refine J_aload_n (dk okX1_goTillNoon 11 rfl) 0 rfl rfl ?_
    refine J_aload_n (dk okX1_goTillNoon 12 rfl) 1 rfl rfl ?_
    have s2 := t
    refine J_callVi (As := [rf E p0]) (dk okX1_goTillNoon 13 rfl) hb.1 rfl vkX1_pass lkX1_77 rfl rfl (Nat.le_of_ble_eq_true rfl) (by decide) (con_X1_pass hb hp0 s2 ⟨_, rfl, ?_⟩)
    refine J_nm (fun μ3 eμ3 => ?_)
    refine J_pop (dk okX1_goTillNoon 14 rfl) rfl ?_
    refine J_iinc (v := (x3 + 1)) (ls' := [(3, _), (0, _), (1, _), (2, _)]) (dk okX1_goTillNoon 15 rfl) 3 rfl rfl (by decide) rfl ?_
    refine J_goto (tgt := 12) (dk okX1_goTillNoon 16 rfl) (by decide) ?_
    exact J_sub [1, 2, 3, 0] rfl (kb x2 (x3 + 1) μ3 (by subst eμ3; unfold bd_X1_goTillNoon_12; first | (simp only [if_neg h1]; done) | (simp only [if_neg h1]; rfl) | rfl))
/-- VotingFloor$Floor.goTillNoon(LVotingFloor$Rule;)I -/
noncomputable def v_X1_goTillNoon (b : Nat) (p0 : Nat) (μ : Mm) : Int32 := (let r2 : Mm := whl (fun s : Int32 × Int32 × Mm => bd_X1_goTillNoon_12 b p0 s.1 s.2.1 s.2.2) (fun s : Int32 × Int32 × Mm => s.2.2) FU (((μ.1 b 7) - (μ.1 b 6)), 0, μ); (v_X1_moment b r2))
noncomputable def e_X1_goTillNoon (b : Nat) (p0 : Nat) (μ : Mm) : Mm := (let r2 : Mm := whl (fun s : Int32 × Int32 × Mm => bd_X1_goTillNoon_12 b p0 s.1 s.2.1 s.2.2) (fun s : Int32 × Int32 × Mm => s.2.2) FU (((μ.1 b 7) - (μ.1 b 6)), 0, μ); r2)
def p_X1_goTillNoon (b : Nat) (p0 : Nat)  (μ : Mm) : Prop := (whP (fun s : Int32 × Int32 × Mm => bd_X1_goTillNoon_12 b p0 s.1 s.2.1 s.2.2) (fun s : Int32 × Int32 × Mm => sd_X1_goTillNoon_12 b p0  s.1 s.2.1 s.2.2) FU (((μ.1 b 7) - (μ.1 b 6)), 0, μ)) ∧ (∀ r2 : Mm, r2 = whl (fun s : Int32 × Int32 × Mm => bd_X1_goTillNoon_12 b p0 s.1 s.2.1 s.2.2) (fun s : Int32 × Int32 × Mm => s.2.2) FU (((μ.1 b 7) - (μ.1 b 6)), 0, μ) → p_X1_moment b r2)
set_option maxRecDepth 20000 in
set_option maxHeartbeats 4000000 in
theorem con_X1_goTillNoon {E : Ex} {Q : Option Value → Mm → Prop} {b : Nat} {p0 : Nat} {μ : Mm} (hb : FloorAt b) (hp0 : RuleAt p0) (t : p_X1_goTillNoon b p0  μ) (k : Q (some (.int (v_X1_goTillNoon b p0 μ))) (e_X1_goTillNoon b p0 μ)) : Con E 5 mX1_goTillNoon [rf E b, rf E p0] μ Q := by
  refine Con_J (by decide +kernel) (Nat.le_of_ble_eq_true rfl) (fun G => ?_)
  unfold v_X1_goTillNoon e_X1_goTillNoon at k
  unfold p_X1_goTillNoon at t
  refine J_sub (ls' := [(0, rf E b), (1, rf E p0)]) [0, 1] rfl ?_
  refine J_aload_n (dk okX1_goTillNoon 0 rfl) 0 rfl rfl ?_
  refine J_getI (dk okX1_goTillNoon 1 rfl) kfX1_34 hb.1 rfl ?_
  refine J_aload_n (dk okX1_goTillNoon 2 rfl) 0 rfl rfl ?_
  refine J_getI (dk okX1_goTillNoon 3 rfl) kfX1_31 hb.1 rfl ?_
  refine J_isub (dk okX1_goTillNoon 4 rfl) ?_
  refine J_istore_n (ls' := [(2, _), (0, _), (1, _)]) (dk okX1_goTillNoon 5 rfl) rfl (by decide) rfl ?_
  refine J_iconst (v := 0) (dk okX1_goTillNoon 6 rfl) (by decide) ?_
  refine J_istore_n (ls' := [(3, _), (2, _), (0, _), (1, _)]) (dk okX1_goTillNoon 7 rfl) rfl (by decide) rfl ?_
  obtain ⟨s1, t⟩ := t
  refine J_sub (ls' := [(0, _), (1, _), (2, _), (3, _)]) [2, 3, 1, 0] rfl ?_
  refine lw_X1_goTillNoon_12 hb hp0 s1 (fun r2 er2 => ?_)
  have t := t r2 er2
  refine J_aload_n (dk okX1_goTillNoon 17 rfl) 0 rfl rfl ?_
  have s3 := t
  refine J_callVi (As := []) (dk okX1_goTillNoon 18 rfl) hb.1 rfl vkX1_moment lkX1_81 rfl rfl (Nat.le_of_ble_eq_true rfl) (by decide) (con_X1_moment hb s3 ⟨_, rfl, ?_⟩)
  subst er2
  exact J_iret (dk okX1_goTillNoon 19 rfl) rfl k
/-- VotingFloor$Rule.takeThing(C)Z -/
noncomputable def v_X5_takeThing (b : Nat) (p0 : Int32) (μ : Mm) : Int32 := (if p0 = 45 then 1 else (if p0 = 40 then (v_X5_open b μ) else (if (v_X9_isDigit p0) = 0 then (if (v_J0_indexOf_0f7a4 0 p0 μ) < 0 then 0 else 1) else 1)))
noncomputable def e_X5_takeThing (b : Nat) (p0 : Int32) (μ : Mm) : Mm := (if p0 = 45 then (let μ3 : Mm := (e_X4_push (b + 3) 126 μ); μ3) else (if p0 = 40 then (let μ6 : Mm := (e_X5_open b μ); μ6) else (if (v_X9_isDigit p0) = 0 then (if (v_J0_indexOf_0f7a4 0 p0 μ) < 0 then μ else (let μ11 : Mm := (e_X5_emit b ((-1) - (v_J0_indexOf_0f7a4 0 p0 μ)) μ); (let μ16 : Mm := (upI μ11 b 2 ((μ11.1 b 2) ||| (if (v_J0_indexOf_0f7a4 0 p0 μ) = 4 then 1 else 0 : Int32))); (let μ17 : Mm := (upI μ16 b 5 0); μ17)))) else (let μ19 : Mm := (e_X5_emit b (p0 - 48) μ); (let μ20 : Mm := (upI μ19 b 8 1); (let μ21 : Mm := (upI μ20 b 5 0); μ21))))))
def p_X5_takeThing (b : Nat) (p0 : Int32)  (μ : Mm) : Prop := ((p0 = 45 → p_X4_push (b + 3) 126 μ) ∧ (¬ (p0 = 45) → ((p0 = 40 → p_X5_open b μ) ∧ (¬ (p0 = 40) → (p_J0_indexOf_0f7a4 0 p0 μ) ∧ (((v_X9_isDigit p0) = 0 → (¬ ((v_J0_indexOf_0f7a4 0 p0 μ) < 0) → (p_X5_emit b ((-1) - (v_J0_indexOf_0f7a4 0 p0 μ)) μ) ∧ (∀ μ11 : Mm, μ11 = (e_X5_emit b ((-1) - (v_J0_indexOf_0f7a4 0 p0 μ)) μ) → (narrow .boolean (.int ((μ11.1 b 2) ||| (if (v_J0_indexOf_0f7a4 0 p0 μ) = 4 then 1 else 0 : Int32))) = .int ((μ11.1 b 2) ||| (if (v_J0_indexOf_0f7a4 0 p0 μ) = 4 then 1 else 0 : Int32))) ∧ fits .boolean (.int ((μ11.1 b 2) ||| (if (v_J0_indexOf_0f7a4 0 p0 μ) = 4 then 1 else 0 : Int32))) = true))) ∧ (¬ ((v_X9_isDigit p0) = 0) → p_X5_emit b (p0 - 48) μ))))))
set_option maxRecDepth 20000 in
set_option maxHeartbeats 4000000 in
theorem con_X5_takeThing {E : Ex} {Q : Option Value → Mm → Prop} {b : Nat} {p0 : Int32} {μ : Mm} (hb : RuleAt b) (t : p_X5_takeThing b p0  μ) (k : Q (some (.int (v_X5_takeThing b p0 μ))) (e_X5_takeThing b p0 μ)) : Con E 5 mX5_takeThing [rf E b, .int p0] μ Q := by
  refine Con_J (by decide +kernel) (Nat.le_of_ble_eq_true rfl) (fun G => ?_)
  unfold v_X5_takeThing e_X5_takeThing at k
  unfold p_X5_takeThing at t
  refine J_sub (ls' := [(0, rf E b), (1, .int p0)]) [0, 1] rfl ?_
  refine J_iload_n (dk okX5_takeThing 0 rfl) 1 rfl rfl ?_
  refine J_bipush (v := 45) (dk okX5_takeThing 1 rfl) (by decide) ?_
  refine J_icmp_ne (tgt := 17) (dk okX5_takeThing 2 rfl) (by decide) (fun h1 => ?_) (fun h1 => ?_)
  · have t := t.2 h1
    refine J_iload_n (dk okX5_takeThing 9 rfl) 1 rfl rfl ?_
    refine J_bipush (v := 40) (dk okX5_takeThing 10 rfl) (by decide) ?_
    refine J_icmp_ne (tgt := 28) (dk okX5_takeThing 11 rfl) (by decide) (fun h4 => ?_) (fun h4 => ?_)
    · have t := t.2 h4
      refine J_ldcS (i := 0) (tx := "cpwmqin") (dk okX5_takeThing 15 rfl) (by decide +kernel) ?_
      refine J_iload_n (dk okX5_takeThing 16 rfl) 1 rfl rfl ?_
      obtain ⟨s7, t⟩ := t
      refine J_callVSi (As := [.int p0]) (dk okX5_takeThing 17 rfl) (by decide) vkJ0_indexOf_0f7a4 lkX5_90 rfl rfl (Nat.le_of_ble_eq_true rfl) (by decide) (con_J0_indexOf_0f7a4 (by decide) s7 ⟨_, rfl, ?_⟩)
      refine J_istore_n (ls' := [(2, _), (0, _), (1, _)]) (dk okX5_takeThing 18 rfl) rfl (by decide) rfl ?_
      refine J_iload_n (dk okX5_takeThing 19 rfl) 2 rfl rfl ?_
      refine J_callSi (As := [.int p0]) (dk okX5_takeThing 20 rfl) skX9_isDigit lkX5_96 rfl rfl (Nat.le_of_ble_eq_true rfl) (by decide) (con_X9_isDigit  ⟨_, rfl, ?_⟩)
      refine J_if_eq (tgt := 58) (dk okX5_takeThing 21 rfl) (by decide) (fun h8 => ?_) (fun h8 => ?_)
      · have t := t.1 h8
        refine J_iload_n (dk okX5_takeThing 31 rfl) 0 rfl rfl ?_
        refine J_if_lt (tgt := 91) (dk okX5_takeThing 32 rfl) (by decide) (fun h9 => ?_) (fun h9 => ?_)
        · refine J_iconst (v := 0) (dk okX5_takeThing 50 rfl) (by decide) ?_
          (try simp only [if_neg h1, if_neg h4, if_pos h8, if_pos h9] at k ⊢)
          exact J_zret (dk okX5_takeThing 51 rfl) rfl rfl k
        · have t := t h9
          refine J_aload_n (dk okX5_takeThing 33 rfl) 1 rfl rfl ?_
          refine J_iconst (v := (-1)) (dk okX5_takeThing 34 rfl) (by decide) ?_
          refine J_iload_n (dk okX5_takeThing 35 rfl) 0 rfl rfl ?_
          refine J_isub (dk okX5_takeThing 36 rfl) ?_
          obtain ⟨s10, t⟩ := t
          refine J_callVv (As := [.int ((-1) - (v_J0_indexOf_0f7a4 0 p0 μ))]) (dk okX5_takeThing 37 rfl) hb.1 rfl vkX5_emit lkX5_78 rfl rfl (Nat.le_of_ble_eq_true rfl) (by decide) (con_X5_emit hb s10 ⟨rfl, ?_⟩)
          refine J_nm (fun μ11 eμ11 => ?_)
          have t := t μ11 eμ11
          refine J_aload_n (dk okX5_takeThing 38 rfl) 1 rfl rfl ?_
          refine J_dup (dk okX5_takeThing 39 rfl) rfl ?_
          refine J_getI (dk okX5_takeThing 40 rfl) kfX5_19 hb.1 rfl ?_
          refine J_iload_n (dk okX5_takeThing 41 rfl) 0 rfl rfl ?_
          refine J_iconst (v := 4) (dk okX5_takeThing 42 rfl) (by decide) ?_
          have K13 : J E G 5 mX5_takeThing Q 84 [(0, rf E b)] [.int (if (v_J0_indexOf_0f7a4 0 p0 μ) = 4 then 1 else 0 : Int32), .int (μ11.1 b 2), rf E b] μ11 := by
            refine J_ior (dk okX5_takeThing 47 rfl) ?_
            obtain ⟨s14, t⟩ := t
            have s15 := t
            refine J_put (dk okX5_takeThing 48 rfl) kpX5_19 hb.1 rfl s14 s15 ?_
            refine J_nm (fun μ16 eμ16 => ?_)
            refine J_goto (tgt := 93) (dk okX5_takeThing 49 rfl) (by decide) ?_
            refine J_aload_n (dk okX5_takeThing 52 rfl) 0 rfl rfl ?_
            refine J_iconst (v := 0) (dk okX5_takeThing 53 rfl) (by decide) ?_
            refine J_put (dk okX5_takeThing 54 rfl) kpX5_33 hb.1 rfl rfl rfl ?_
            refine J_nm (fun μ17 eμ17 => ?_)
            refine J_iconst (v := 1) (dk okX5_takeThing 55 rfl) (by decide) ?_
            subst eμ17 eμ16 eμ11
            (try simp only [if_neg h1, if_neg h4, if_pos h8, if_neg h9] at k ⊢)
            exact J_zret (dk okX5_takeThing 56 rfl) rfl rfl k
          refine J_icmp_ne (tgt := 83) (dk okX5_takeThing 43 rfl) (by decide) (fun h12 => ?_) (fun h12 => ?_)
          · refine J_iconst (v := 0) (dk okX5_takeThing 46 rfl) (by decide) ?_
            refine J_sub (ls' := [(0, _)]) [1] rfl ?_
            (try simp only [if_neg h12] at K13 ⊢); exact K13
          · refine J_iconst (v := 1) (dk okX5_takeThing 44 rfl) (by decide) ?_
            refine J_goto (tgt := 84) (dk okX5_takeThing 45 rfl) (by decide) ?_
            refine J_sub (ls' := [(0, _)]) [1] rfl ?_
            (try simp only [if_pos h12] at K13 ⊢); exact K13
      · have t := t.2 h8
        refine J_aload_n (dk okX5_takeThing 22 rfl) 1 rfl rfl ?_
        refine J_iload_n (dk okX5_takeThing 23 rfl) 2 rfl rfl ?_
        refine J_bipush (v := 48) (dk okX5_takeThing 24 rfl) (by decide) ?_
        refine J_isub (dk okX5_takeThing 25 rfl) ?_
        have s18 := t
        refine J_callVv (As := [.int (p0 - 48)]) (dk okX5_takeThing 26 rfl) hb.1 rfl vkX5_emit lkX5_78 rfl rfl (Nat.le_of_ble_eq_true rfl) (by decide) (con_X5_emit hb s18 ⟨rfl, ?_⟩)
        refine J_nm (fun μ19 eμ19 => ?_)
        refine J_aload_n (dk okX5_takeThing 27 rfl) 1 rfl rfl ?_
        refine J_iconst (v := 1) (dk okX5_takeThing 28 rfl) (by decide) ?_
        refine J_put (dk okX5_takeThing 29 rfl) kpX5_42 hb.1 rfl rfl rfl ?_
        refine J_nm (fun μ20 eμ20 => ?_)
        refine J_goto (tgt := 93) (dk okX5_takeThing 30 rfl) (by decide) ?_
        refine J_aload_n (dk okX5_takeThing 52 rfl) 1 rfl rfl ?_
        refine J_iconst (v := 0) (dk okX5_takeThing 53 rfl) (by decide) ?_
        refine J_put (dk okX5_takeThing 54 rfl) kpX5_33 hb.1 rfl rfl rfl ?_
        refine J_nm (fun μ21 eμ21 => ?_)
        refine J_iconst (v := 1) (dk okX5_takeThing 55 rfl) (by decide) ?_
        subst eμ21 eμ20 eμ19
        (try simp only [if_neg h1, if_neg h4, if_neg h8] at k ⊢)
        exact J_zret (dk okX5_takeThing 56 rfl) rfl rfl k
    · have t := t.1 h4
      refine J_aload_n (dk okX5_takeThing 12 rfl) 0 rfl rfl ?_
      have s5 := t
      refine J_callVi (As := []) (dk okX5_takeThing 13 rfl) hb.1 rfl vkX5_open lkX5_84 rfl rfl (Nat.le_of_ble_eq_true rfl) (by decide) (con_X5_open hb s5 ⟨_, rfl, ?_⟩)
      refine J_nm (fun μ6 eμ6 => ?_)
      subst eμ6
      (try simp only [if_neg h1, if_pos h4] at k ⊢)
      exact J_zret (dk okX5_takeThing 14 rfl) rfl (nb_X5_open _ _) k
  · have t := t.1 h1
    refine J_aload_n (dk okX5_takeThing 3 rfl) 0 rfl rfl ?_
    refine J_getR (dk okX5_takeThing 4 rfl) kfX5_29 hb.1 rfl ?_
    refine J_bipush (v := 126) (dk okX5_takeThing 5 rfl) (by decide) ?_
    have s2 := t
    refine J_callVv (As := [.int 126]) (dk okX5_takeThing 6 rfl) hb.2.2.2.1 rfl vkX4_push lkX5_81 rfl rfl (Nat.le_of_ble_eq_true rfl) (by decide) (con_X4_push (RuleAt_pile hb) s2 ⟨rfl, ?_⟩)
    refine J_nm (fun μ3 eμ3 => ?_)
    refine J_iconst (v := 1) (dk okX5_takeThing 7 rfl) (by decide) ?_
    subst eμ3
    (try simp only [if_pos h1] at k ⊢)
    exact J_zret (dk okX5_takeThing 8 rfl) rfl rfl k
/-- VotingFloor.act(I)I -/
noncomputable def v_X11_act (p0 : Int32) (μ : Mm) : Int32 := (if (v_X9_at p0 μ) = 108 then (v_X1_lead 1 (v_X9_digit (p0 + 1) μ) (v_X9_signed (p0 + 2) 119 μ) μ) else (if (v_X9_at p0 μ) = 109 then (-1) else (if (v_X9_at p0 μ) = 110 then (v_X1_go 1 (v_X9_digit (p0 + 1) μ) 15 μ) else (if (v_X9_at p0 μ) = 111 then (v_X1_stepOffOrOn 1 (v_X9_digit (p0 + 1) μ) μ) else (if (v_X9_at p0 μ) = 112 then (-1) else (if (v_X9_at p0 μ) = 113 then (-1) else (if (v_X9_at p0 μ) = 114 then (-1) else (if (v_X9_at p0 μ) = 115 then (v_X1_burden 1 (v_X9_digit (p0 + 1) μ) (v_X9_digit (p0 + 2) μ) μ) else (if (v_X9_at p0 μ) = 116 then (v_X1_turn 1 (v_X9_digit (p0 + 1) μ) (v_X9_signed (p0 + 2) 45 μ) μ) else (-1))))))))))
noncomputable def e_X11_act (p0 : Int32) (μ : Mm) : Mm := (if (v_X9_at p0 μ) = 108 then (let μ7 : Mm := (e_X1_lead 1 (v_X9_digit (p0 + 1) μ) (v_X9_signed (p0 + 2) 119 μ) μ); μ7) else (if (v_X9_at p0 μ) = 109 then μ else (if (v_X9_at p0 μ) = 110 then (let μ11 : Mm := (e_X1_go 1 (v_X9_digit (p0 + 1) μ) 15 μ); μ11) else (if (v_X9_at p0 μ) = 111 then (let μ13 : Mm := (e_X1_stepOffOrOn 1 (v_X9_digit (p0 + 1) μ) μ); μ13) else (if (v_X9_at p0 μ) = 112 then μ else (if (v_X9_at p0 μ) = 113 then μ else (if (v_X9_at p0 μ) = 114 then μ else (if (v_X9_at p0 μ) = 115 then (let μ20 : Mm := (e_X1_burden 1 (v_X9_digit (p0 + 1) μ) (v_X9_digit (p0 + 2) μ) μ); μ20) else (if (v_X9_at p0 μ) = 116 then (let μ24 : Mm := (e_X1_turn 1 (v_X9_digit (p0 + 1) μ) (v_X9_signed (p0 + 2) 45 μ) μ); μ24) else μ)))))))))
def p_X11_act (p0 : Int32)  (μ : Mm) : Prop := (p_X9_digit (p0 + 1) μ) ∧ (p_X9_at p0 μ) ∧ (((v_X9_at p0 μ) = 108 → (p_X9_signed (p0 + 2) 119 μ) ∧ p_X1_lead 1 (v_X9_digit (p0 + 1) μ) (v_X9_signed (p0 + 2) 119 μ) μ) ∧ (¬ ((v_X9_at p0 μ) = 108) → (¬ ((v_X9_at p0 μ) = 109) → (((v_X9_at p0 μ) = 110 → p_X1_go 1 (v_X9_digit (p0 + 1) μ) 15 μ) ∧ (¬ ((v_X9_at p0 μ) = 110) → (¬ ((v_X9_at p0 μ) = 111) → (¬ ((v_X9_at p0 μ) = 112) → (¬ ((v_X9_at p0 μ) = 113) → (¬ ((v_X9_at p0 μ) = 114) → (((v_X9_at p0 μ) = 115 → (p_X9_digit (p0 + 2) μ) ∧ p_X1_burden 1 (v_X9_digit (p0 + 1) μ) (v_X9_digit (p0 + 2) μ) μ) ∧ (¬ ((v_X9_at p0 μ) = 115) → ((v_X9_at p0 μ) = 116 → (p_X9_signed (p0 + 2) 45 μ) ∧ p_X1_turn 1 (v_X9_digit (p0 + 1) μ) (v_X9_signed (p0 + 2) 45 μ) μ))))))))))))
set_option maxRecDepth 20000 in
set_option maxHeartbeats 4000000 in
theorem con_X11_act {E : Ex} {Q : Option Value → Mm → Prop} {p0 : Int32} {μ : Mm} (t : p_X11_act p0  μ) (k : Q (some (.int (v_X11_act p0 μ))) (e_X11_act p0 μ)) : Con E 6 mX11_act [rf E 0, .int p0] μ Q := by
  refine Con_J (by decide +kernel) (Nat.le_of_ble_eq_true rfl) (fun G => ?_)
  unfold v_X11_act e_X11_act at k
  unfold p_X11_act at t
  refine J_sub (ls' := [(0, rf E 0), (1, .int p0)]) [0, 1] rfl ?_
  refine J_aload_n (dk okX11_act 0 rfl) 0 rfl rfl ?_
  refine J_getR (dk okX11_act 1 rfl) kfX11_32 ds_0 rfl ?_
  refine J_iload_n (dk okX11_act 2 rfl) 1 rfl rfl ?_
  refine J_iconst (v := 1) (dk okX11_act 3 rfl) (by decide) ?_
  refine J_iadd (dk okX11_act 4 rfl) ?_
  obtain ⟨s1, t⟩ := t
  refine J_callVi (As := [.int (p0 + 1)]) (dk okX11_act 5 rfl) ds_25 rfl vkX9_digit lkX11_113 rfl rfl (Nat.le_of_ble_eq_true rfl) (by decide) (con_X9_digit s1 ⟨_, rfl, ?_⟩)
  refine J_istore_n (ls' := [(2, _), (0, _), (1, _)]) (dk okX11_act 6 rfl) rfl (by decide) rfl ?_
  refine J_aload_n (dk okX11_act 7 rfl) 1 rfl rfl ?_
  refine J_getR (dk okX11_act 8 rfl) kfX11_32 ds_0 rfl ?_
  refine J_iload_n (dk okX11_act 9 rfl) 2 rfl rfl ?_
  obtain ⟨s2, t⟩ := t
  refine J_callVi (As := [.int p0]) (dk okX11_act 10 rfl) ds_25 rfl vkX9_at lkX11_232 rfl rfl (Nat.le_of_ble_eq_true rfl) (by decide) (con_X9_at s2 ⟨_, rfl, ?_⟩)
  by_cases h4 : (v_X9_at p0 μ) = 108
  · have t := t.1 h4
    refine J_at h4 (J_tableIn (x := 108) (off := 62) (tgt := 81) (dk okX11_act 11 rfl) (by decide) (by decide) (by decide) (by decide) ?_)
    refine J_aload_n (dk okX11_act 19 rfl) 1 rfl rfl ?_
    refine J_getR (dk okX11_act 20 rfl) kfX11_12 ds_0 rfl ?_
    refine J_iload_n (dk okX11_act 21 rfl) 0 rfl rfl ?_
    refine J_aload_n (dk okX11_act 22 rfl) 1 rfl rfl ?_
    refine J_getR (dk okX11_act 23 rfl) kfX11_32 ds_0 rfl ?_
    refine J_iload_n (dk okX11_act 24 rfl) 2 rfl rfl ?_
    refine J_iconst (v := 2) (dk okX11_act 25 rfl) (by decide) ?_
    refine J_iadd (dk okX11_act 26 rfl) ?_
    refine J_bipush (v := 119) (dk okX11_act 27 rfl) (by decide) ?_
    obtain ⟨s5, t⟩ := t
    refine J_callVi (As := [.int (p0 + 2), .int 119]) (dk okX11_act 28 rfl) ds_25 rfl vkX9_signed lkX11_116 rfl rfl (Nat.le_of_ble_eq_true rfl) (by decide) (con_X9_signed s5 ⟨_, rfl, ?_⟩)
    have s6 := t
    refine J_callVi (As := [.int (v_X9_digit (p0 + 1) μ), .int (v_X9_signed (p0 + 2) 119 μ)]) (dk okX11_act 29 rfl) ds_1 rfl vkX1_lead lkX11_211 rfl rfl (Nat.le_of_ble_eq_true rfl) (by decide) (con_X1_lead FloorAt_1 s6 ⟨_, rfl, ?_⟩)
    refine J_nm (fun μ7 eμ7 => ?_)
    subst eμ7
    (try simp only [if_pos h4] at k ⊢)
    exact J_iret (dk okX11_act 30 rfl) rfl k
  · have t := t.2 h4
    by_cases h8 : (v_X9_at p0 μ) = 109
    · refine J_at h8 (J_tableIn (x := 109) (off := 132) (tgt := 151) (dk okX11_act 11 rfl) (by decide) (by decide) (by decide) (by decide) ?_)
      refine J_iconst (v := (-1)) (dk okX11_act 59 rfl) (by decide) ?_
      (try simp only [if_neg h4, if_pos h8] at k ⊢)
      exact J_iret (dk okX11_act 60 rfl) rfl k
    · have t := t h8
      by_cases h9 : (v_X9_at p0 μ) = 110
      · have t := t.1 h9
        refine J_at h9 (J_tableIn (x := 110) (off := 49) (tgt := 68) (dk okX11_act 11 rfl) (by decide) (by decide) (by decide) (by decide) ?_)
        refine J_aload_n (dk okX11_act 12 rfl) 1 rfl rfl ?_
        refine J_getR (dk okX11_act 13 rfl) kfX11_12 ds_0 rfl ?_
        refine J_iload_n (dk okX11_act 14 rfl) 0 rfl rfl ?_
        refine J_aload_n (dk okX11_act 15 rfl) 1 rfl rfl ?_
        refine J_getR (dk okX11_act 16 rfl) kfX11_22 ds_0 rfl ?_
        have s10 := t
        refine J_callVi (As := [.int (v_X9_digit (p0 + 1) μ), rf E 15]) (dk okX11_act 17 rfl) ds_1 rfl vkX1_go lkX11_189 rfl rfl (Nat.le_of_ble_eq_true rfl) (by decide) (con_X1_go FloorAt_1 RuleAt_15 s10 ⟨_, rfl, ?_⟩)
        refine J_nm (fun μ11 eμ11 => ?_)
        subst eμ11
        (try simp only [if_neg h4, if_neg h8, if_pos h9] at k ⊢)
        exact J_iret (dk okX11_act 18 rfl) rfl k
      · have t := t.2 h9
        by_cases h12 : (v_X9_at p0 μ) = 111
        · refine J_at h12 (J_tableIn (x := 111) (off := 102) (tgt := 121) (dk okX11_act 11 rfl) (by decide) (by decide) (by decide) (by decide) ?_)
          refine J_aload_n (dk okX11_act 42 rfl) 1 rfl rfl ?_
          refine J_getR (dk okX11_act 43 rfl) kfX11_12 ds_0 rfl ?_
          refine J_iload_n (dk okX11_act 44 rfl) 0 rfl rfl ?_
          refine J_callVi (As := [.int (v_X9_digit (p0 + 1) μ)]) (dk okX11_act 45 rfl) ds_1 rfl vkX1_stepOffOrOn lkX11_220 rfl rfl (Nat.le_of_ble_eq_true rfl) (by decide) (con_X1_stepOffOrOn FloorAt_1 ⟨_, rfl, ?_⟩)
          refine J_nm (fun μ13 eμ13 => ?_)
          subst eμ13
          (try simp only [if_neg h4, if_neg h8, if_neg h9, if_pos h12] at k ⊢)
          exact J_iret (dk okX11_act 46 rfl) rfl k
        · have t := t h12
          by_cases h14 : (v_X9_at p0 μ) = 112
          · refine J_at h14 (J_tableIn (x := 112) (off := 132) (tgt := 151) (dk okX11_act 11 rfl) (by decide) (by decide) (by decide) (by decide) ?_)
            refine J_iconst (v := (-1)) (dk okX11_act 59 rfl) (by decide) ?_
            (try simp only [if_neg h4, if_neg h8, if_neg h9, if_neg h12, if_pos h14] at k ⊢)
            exact J_iret (dk okX11_act 60 rfl) rfl k
          · have t := t h14
            by_cases h15 : (v_X9_at p0 μ) = 113
            · refine J_at h15 (J_tableIn (x := 113) (off := 132) (tgt := 151) (dk okX11_act 11 rfl) (by decide) (by decide) (by decide) (by decide) ?_)
              refine J_iconst (v := (-1)) (dk okX11_act 59 rfl) (by decide) ?_
              (try simp only [if_neg h4, if_neg h8, if_neg h9, if_neg h12, if_neg h14, if_pos h15] at k ⊢)
              exact J_iret (dk okX11_act 60 rfl) rfl k
            · have t := t h15
              by_cases h16 : (v_X9_at p0 μ) = 114
              · refine J_at h16 (J_tableIn (x := 114) (off := 132) (tgt := 151) (dk okX11_act 11 rfl) (by decide) (by decide) (by decide) (by decide) ?_)
                refine J_iconst (v := (-1)) (dk okX11_act 59 rfl) (by decide) ?_
                (try simp only [if_neg h4, if_neg h8, if_neg h9, if_neg h12, if_neg h14, if_neg h15, if_pos h16] at k ⊢)
                exact J_iret (dk okX11_act 60 rfl) rfl k
              · have t := t h16
                by_cases h17 : (v_X9_at p0 μ) = 115
                · have t := t.1 h17
                  refine J_at h17 (J_tableIn (x := 115) (off := 83) (tgt := 102) (dk okX11_act 11 rfl) (by decide) (by decide) (by decide) (by decide) ?_)
                  refine J_aload_n (dk okX11_act 31 rfl) 1 rfl rfl ?_
                  refine J_getR (dk okX11_act 32 rfl) kfX11_12 ds_0 rfl ?_
                  refine J_iload_n (dk okX11_act 33 rfl) 0 rfl rfl ?_
                  refine J_aload_n (dk okX11_act 34 rfl) 1 rfl rfl ?_
                  refine J_getR (dk okX11_act 35 rfl) kfX11_32 ds_0 rfl ?_
                  refine J_iload_n (dk okX11_act 36 rfl) 2 rfl rfl ?_
                  refine J_iconst (v := 2) (dk okX11_act 37 rfl) (by decide) ?_
                  refine J_iadd (dk okX11_act 38 rfl) ?_
                  obtain ⟨s18, t⟩ := t
                  refine J_callVi (As := [.int (p0 + 2)]) (dk okX11_act 39 rfl) ds_25 rfl vkX9_digit lkX11_113 rfl rfl (Nat.le_of_ble_eq_true rfl) (by decide) (con_X9_digit s18 ⟨_, rfl, ?_⟩)
                  have s19 := t
                  refine J_callVi (As := [.int (v_X9_digit (p0 + 1) μ), .int (v_X9_digit (p0 + 2) μ)]) (dk okX11_act 40 rfl) ds_1 rfl vkX1_burden lkX11_217 rfl rfl (Nat.le_of_ble_eq_true rfl) (by decide) (con_X1_burden FloorAt_1 s19 ⟨_, rfl, ?_⟩)
                  refine J_nm (fun μ20 eμ20 => ?_)
                  subst eμ20
                  (try simp only [if_neg h4, if_neg h8, if_neg h9, if_neg h12, if_neg h14, if_neg h15, if_neg h16, if_pos h17] at k ⊢)
                  exact J_iret (dk okX11_act 41 rfl) rfl k
                · have t := t.2 h17
                  by_cases h21 : (v_X9_at p0 μ) = 116
                  · have t := t h21
                    refine J_at h21 (J_tableIn (x := 116) (off := 111) (tgt := 130) (dk okX11_act 11 rfl) (by decide) (by decide) (by decide) (by decide) ?_)
                    refine J_aload_n (dk okX11_act 47 rfl) 1 rfl rfl ?_
                    refine J_getR (dk okX11_act 48 rfl) kfX11_12 ds_0 rfl ?_
                    refine J_iload_n (dk okX11_act 49 rfl) 0 rfl rfl ?_
                    refine J_aload_n (dk okX11_act 50 rfl) 1 rfl rfl ?_
                    refine J_getR (dk okX11_act 51 rfl) kfX11_32 ds_0 rfl ?_
                    refine J_iload_n (dk okX11_act 52 rfl) 2 rfl rfl ?_
                    refine J_iconst (v := 2) (dk okX11_act 53 rfl) (by decide) ?_
                    refine J_iadd (dk okX11_act 54 rfl) ?_
                    refine J_bipush (v := 45) (dk okX11_act 55 rfl) (by decide) ?_
                    obtain ⟨s22, t⟩ := t
                    refine J_callVi (As := [.int (p0 + 2), .int 45]) (dk okX11_act 56 rfl) ds_25 rfl vkX9_signed lkX11_116 rfl rfl (Nat.le_of_ble_eq_true rfl) (by decide) (con_X9_signed s22 ⟨_, rfl, ?_⟩)
                    have s23 := t
                    refine J_callVi (As := [.int (v_X9_digit (p0 + 1) μ), .int (v_X9_signed (p0 + 2) 45 μ)]) (dk okX11_act 57 rfl) ds_1 rfl vkX1_turn lkX11_223 rfl rfl (Nat.le_of_ble_eq_true rfl) (by decide) (con_X1_turn FloorAt_1 s23 ⟨_, rfl, ?_⟩)
                    refine J_nm (fun μ24 eμ24 => ?_)
                    subst eμ24
                    (try simp only [if_neg h4, if_neg h8, if_neg h9, if_neg h12, if_neg h14, if_neg h15, if_neg h16, if_neg h17, if_pos h21] at k ⊢)
                    exact J_iret (dk okX11_act 58 rfl) rfl k
                  · have nh4 := lv_neT (a := 108) h4 (by decide)
                    have nh8 := lv_neT (a := 109) h8 (by decide)
                    have nh9 := lv_neT (a := 110) h9 (by decide)
                    have nh12 := lv_neT (a := 111) h12 (by decide)
                    have nh14 := lv_neT (a := 112) h14 (by decide)
                    have nh15 := lv_neT (a := 113) h15 (by decide)
                    have nh16 := lv_neT (a := 114) h16 (by decide)
                    have nh17 := lv_neT (a := 115) h17 (by decide)
                    have nh21 := lv_neT (a := 116) h21 (by decide)
                    refine J_tableOut (tgt := 151) (dk okX11_act 11 rfl) (by omega) (by decide) ?_
                    refine J_iconst (v := (-1)) (dk okX11_act 59 rfl) (by decide) ?_
                    (try simp only [if_neg h4, if_neg h8, if_neg h9, if_neg h12, if_neg h14, if_neg h15, if_neg h16, if_neg h17, if_neg h21] at k ⊢)
                    exact J_iret (dk okX11_act 60 rfl) rfl k
noncomputable def bd_X11_cares_33  (x1 : Int32) (x2 : Int32) (x3 : Int32) (x4 : Int32) (x5 : Int32) (x6 : Int32) (μ : Mm) : (Int32 × Int32 × Int32 × Int32 × Int32 × Int32 × Mm) ⊕ (Int32 × Int32 × Int32 × Mm) := (if 9 < x6 then .inr (x3, x4, x5, μ) else (let μ3 : Mm := (e_X11_couldWish x1 x6 x2 μ); .inl (x1, x2, (if (v_X11_couldWish x1 x6 x2 μ) = 0 then x3 else (x3 ||| (1 <<< ((9 + x6) &&& 31))) : Int32), (if (v_X11_couldWish x1 x6 x2 μ) = 0 then x4 else (if x3 = 0 then x6 else x4 : Int32) : Int32), (if (v_X11_couldWish x1 x6 x2 μ) = 0 then x5 else x6 : Int32), (x6 + 1), μ3)))
def sd_X11_cares_33   (x1 : Int32) (x2 : Int32) (x3 : Int32) (x4 : Int32) (x5 : Int32) (x6 : Int32) (μ : Mm) : Prop := (¬ (9 < x6) → p_X11_couldWish x1 x6 x2 μ)
set_option maxRecDepth 20000 in
set_option maxHeartbeats 4000000 in
theorem lw_X11_cares_33 {E : Ex} {G : Gx} {Q : Option Value → Mm → Prop} {x1 : Int32} {x2 : Int32} {x3 : Int32} {x4 : Int32} {x5 : Int32} {x6 : Int32} {μ : Mm}  (p : whP (fun s : Int32 × Int32 × Int32 × Int32 × Int32 × Int32 × Mm => bd_X11_cares_33  s.1 s.2.1 s.2.2.1 s.2.2.2.1 s.2.2.2.2.1 s.2.2.2.2.2.1 s.2.2.2.2.2.2) (fun s : Int32 × Int32 × Int32 × Int32 × Int32 × Int32 × Mm => sd_X11_cares_33   s.1 s.2.1 s.2.2.1 s.2.2.2.1 s.2.2.2.2.1 s.2.2.2.2.2.1 s.2.2.2.2.2.2) FU (x1, x2, x3, x4, x5, x6, μ)) (k : ∀ r : Int32 × Int32 × Int32 × Mm, r = whl (fun s : Int32 × Int32 × Int32 × Int32 × Int32 × Int32 × Mm => bd_X11_cares_33  s.1 s.2.1 s.2.2.1 s.2.2.2.1 s.2.2.2.2.1 s.2.2.2.2.2.1 s.2.2.2.2.2.2) (fun s : Int32 × Int32 × Int32 × Int32 × Int32 × Int32 × Mm => (0, 0, 0, s.2.2.2.2.2.2)) FU (x1, x2, x3, x4, x5, x6, μ) → J E G 6 mX11_cares Q 84 [(0, rf E 0), (3, .int (r.1)), (4, .int (r.2.1)), (5, .int (r.2.2.1))] [] (r.2.2.2)) : J E G 6 mX11_cares Q 33 [(0, rf E 0), (1, .int x1), (2, .int x2), (3, .int x3), (4, .int x4), (5, .int x5), (6, .int x6)] [] μ := by
  refine J_whl (f := (fun s : Int32 × Int32 × Int32 × Int32 × Int32 × Int32 × Mm => bd_X11_cares_33  s.1 s.2.1 s.2.2.1 s.2.2.2.1 s.2.2.2.2.1 s.2.2.2.2.2.1 s.2.2.2.2.2.2)) (dd := (fun s : Int32 × Int32 × Int32 × Int32 × Int32 × Int32 × Mm => (0, 0, 0, s.2.2.2.2.2.2))) (sd := (fun s : Int32 × Int32 × Int32 × Int32 × Int32 × Int32 × Mm => sd_X11_cares_33   s.1 s.2.1 s.2.2.1 s.2.2.2.1 s.2.2.2.2.1 s.2.2.2.2.2.1 s.2.2.2.2.2.2)) (P := fun s : Int32 × Int32 × Int32 × Int32 × Int32 × Int32 × Mm => J E G 6 mX11_cares Q 33 [(0, rf E 0), (1, .int (s.1)), (2, .int (s.2.1)), (3, .int (s.2.2.1)), (4, .int (s.2.2.2.1)), (5, .int (s.2.2.2.2.1)), (6, .int (s.2.2.2.2.2.1))] [] (s.2.2.2.2.2.2)) (R := fun r : Int32 × Int32 × Int32 × Mm => J E G 6 mX11_cares Q 84 [(0, rf E 0), (3, .int (r.1)), (4, .int (r.2.1)), (5, .int (r.2.2.1))] [] (r.2.2.2)) ?_ FU (x1, x2, x3, x4, x5, x6, μ) p (k _ rfl)
  clear p k
  rintro ⟨x1, x2, x3, x4, x5, x6, μ⟩ t k1 k2
  dsimp only [sd_X11_cares_33] at t
  have kb : ∀ (y1 : Int32) (y2 : Int32) (y3 : Int32) (y4 : Int32) (y5 : Int32) (y6 : Int32) (μ9 : Mm), bd_X11_cares_33  x1 x2 x3 x4 x5 x6 μ = .inl (y1, y2, y3, y4, y5, y6, μ9) → J E G 6 mX11_cares Q 33 [(0, rf E 0), (1, .int y1), (2, .int y2), (3, .int y3), (4, .int y4), (5, .int y5), (6, .int y6)] [] μ9 := fun y1 y2 y3 y4 y5 y6 μ9 h => k1 (y1, y2, y3, y4, y5, y6, μ9) h
  have kx : ∀ (y3 : Int32) (y4 : Int32) (y5 : Int32) (μ9 : Mm), bd_X11_cares_33  x1 x2 x3 x4 x5 x6 μ = .inr (y3, y4, y5, μ9) → J E G 6 mX11_cares Q 84 [(0, rf E 0), (3, .int y3), (4, .int y4), (5, .int y5)] [] μ9 := fun y3 y4 y5 μ9 h => k2 (y3, y4, y5, μ9) h
  clear k1 k2
  refine J_iload (dk okX11_cares 19 rfl) 6 rfl ?_
  refine J_bipush (v := 9) (dk okX11_cares 20 rfl) (by decide) ?_
  refine J_icmp_gt (tgt := 84) (dk okX11_cares 21 rfl) (by decide) (fun h1 => ?_) (fun h1 => ?_)
  · exact J_sub [0, 3, 4, 5] rfl (kx x3 x4 x5 μ (by unfold bd_X11_cares_33; first | (simp only [if_pos h1]; done) | (simp only [if_pos h1]; rfl) | rfl))
  · have t := t h1
    refine J_aload_n (dk okX11_cares 22 rfl) 0 rfl rfl ?_
    refine J_iload_n (dk okX11_cares 23 rfl) 1 rfl rfl ?_
    refine J_iload (dk okX11_cares 24 rfl) 6 rfl ?_
    refine J_iload_n (dk okX11_cares 25 rfl) 2 rfl rfl ?_
    have s2 := t
    refine J_callVi (As := [.int x1, .int x6, .int x2]) (dk okX11_cares 26 rfl) ds_0 rfl vkX11_couldWish lkX11_339 rfl rfl (Nat.le_of_ble_eq_true rfl) (by decide) (con_X11_couldWish s2 ⟨_, rfl, ?_⟩)
    refine J_nm (fun μ3 eμ3 => ?_)
    have K7 : J E G 6 mX11_cares Q 78 [(0, rf E 0), (1, .int x1), (2, .int x2), (3, .int (if (v_X11_couldWish x1 x6 x2 μ) = 0 then x3 else (x3 ||| (1 <<< ((9 + x6) &&& 31))) : Int32)), (4, .int (if (v_X11_couldWish x1 x6 x2 μ) = 0 then x4 else (if x3 = 0 then x6 else x4 : Int32) : Int32)), (5, .int (if (v_X11_couldWish x1 x6 x2 μ) = 0 then x5 else x6 : Int32)), (6, .int x6)] [] μ3 := by
      refine J_iinc (v := (x6 + 1)) (ls' := [(6, _), (0, _), (1, _), (2, _), (3, _), (4, _), (5, _)]) (dk okX11_cares 44 rfl) 6 rfl rfl (by decide) rfl ?_
      refine J_goto (tgt := 33) (dk okX11_cares 45 rfl) (by decide) ?_
      exact J_sub [1, 2, 3, 4, 5, 6, 0] rfl (kb x1 x2 (if (v_X11_couldWish x1 x6 x2 μ) = 0 then x3 else (x3 ||| (1 <<< ((9 + x6) &&& 31))) : Int32) (if (v_X11_couldWish x1 x6 x2 μ) = 0 then x4 else (if x3 = 0 then x6 else x4 : Int32) : Int32) (if (v_X11_couldWish x1 x6 x2 μ) = 0 then x5 else x6 : Int32) (x6 + 1) μ3 (by subst eμ3; unfold bd_X11_cares_33; first | (simp only [if_neg h1]; done) | (simp only [if_neg h1]; rfl) | rfl))
    refine J_if_eq (tgt := 78) (dk okX11_cares 27 rfl) (by decide) (fun h4 => ?_) (fun h4 => ?_)
    · refine J_sub (ls' := [(0, _), (1, _), (2, _), (3, _), (4, _), (5, _), (6, _)]) [0, 1, 2, 3, 4, 5, 6] rfl ?_
      (try simp only [if_pos h4] at K7 ⊢); exact K7
    · refine J_iload_n (dk okX11_cares 28 rfl) 3 rfl rfl ?_
      have K6 : J E G 6 mX11_cares Q 62 [(0, rf E 0), (1, .int x1), (2, .int x2), (3, .int x3), (6, .int x6)] [.int (if x3 = 0 then x6 else x4 : Int32)] μ3 := by
        refine J_istore (ls' := [(4, _), (0, _), (1, _), (2, _), (3, _), (6, _)]) (dk okX11_cares 33 rfl) (by decide) rfl ?_
        refine J_iload (dk okX11_cares 34 rfl) 5 rfl ?_
        refine J_istore (ls' := [(5, _), (4, _), (0, _), (1, _), (2, _), (3, _), (6, _)]) (dk okX11_cares 35 rfl) (by decide) rfl ?_
        refine J_iload_n (dk okX11_cares 36 rfl) 5 rfl rfl ?_
        refine J_iconst (v := 1) (dk okX11_cares 37 rfl) (by decide) ?_
        refine J_bipush (v := 9) (dk okX11_cares 38 rfl) (by decide) ?_
        refine J_iload (dk okX11_cares 39 rfl) 6 rfl ?_
        refine J_iadd (dk okX11_cares 40 rfl) ?_
        refine J_ishl (dk okX11_cares 41 rfl) ?_
        refine J_ior (dk okX11_cares 42 rfl) ?_
        refine J_istore_n (ls' := [(3, _), (5, _), (4, _), (0, _), (1, _), (2, _), (6, _)]) (dk okX11_cares 43 rfl) rfl (by decide) rfl ?_
        refine J_sub (ls' := [(0, _), (1, _), (2, _), (3, _), (4, _), (5, _), (6, _)]) [3, 4, 5, 0, 2, 1, 6] rfl ?_
        (try simp only [if_neg h4] at K7 ⊢); exact K7
      refine J_if_ne (tgt := 60) (dk okX11_cares 29 rfl) (by decide) (fun h5 => ?_) (fun h5 => ?_)
      · refine J_iload (dk okX11_cares 32 rfl) 4 rfl ?_
        refine J_sub (ls' := [(0, _), (1, _), (2, _), (3, _), (6, _)]) [0, 1, 2, 3, 6] rfl ?_
        (try simp only [if_neg h5] at K6 ⊢); exact K6
      · refine J_iload (dk okX11_cares 30 rfl) 6 rfl ?_
        refine J_goto (tgt := 62) (dk okX11_cares 31 rfl) (by decide) ?_
        refine J_sub (ls' := [(0, _), (1, _), (2, _), (3, _), (6, _)]) [0, 1, 2, 3, 6] rfl ?_
        (try simp only [if_pos h5] at K6 ⊢); exact K6
/-- VotingFloor.cares(I)I -/
noncomputable def v_X11_cares (p0 : Int32) (μ : Mm) : Int32 := (if (v_X1_has 1 p0 μ) = 0 then (-1) else (let r4 : Int32 × Int32 × Int32 × Mm := whl (fun s : Int32 × Int32 × Int32 × Int32 × Int32 × Int32 × Mm => bd_X11_cares_33  s.1 s.2.1 s.2.2.1 s.2.2.2.1 s.2.2.2.2.1 s.2.2.2.2.2.1 s.2.2.2.2.2.2) (fun s : Int32 × Int32 × Int32 × Int32 × Int32 × Int32 × Mm => (0, 0, 0, s.2.2.2.2.2.2)) FU (p0, (v_X6_latest  μ), 0, 0, 0, (-9), μ); (r4.1)))
noncomputable def e_X11_cares (p0 : Int32) (μ : Mm) : Mm := (if (v_X1_has 1 p0 μ) = 0 then μ else (let r4 : Int32 × Int32 × Int32 × Mm := whl (fun s : Int32 × Int32 × Int32 × Int32 × Int32 × Int32 × Mm => bd_X11_cares_33  s.1 s.2.1 s.2.2.1 s.2.2.2.1 s.2.2.2.2.1 s.2.2.2.2.2.1 s.2.2.2.2.2.2) (fun s : Int32 × Int32 × Int32 × Int32 × Int32 × Int32 × Mm => (0, 0, 0, s.2.2.2.2.2.2)) FU (p0, (v_X6_latest  μ), 0, 0, 0, (-9), μ); (let μ5 : Mm := (e_X10_begin  (r4.2.2.2)); (let μ7 : Mm := (e_X10_add (Int32.toInt64 (v_J6_bitCount_0f7a4 (r4.1))) μ5); (let μ13 : Mm := (if (r4.1) = 0 then μ7 else ((e_X10_add (Int32.toInt64 (100 + (r4.2.2.1))) ((e_X10_add (Int32.toInt64 (100 + (r4.2.1))) μ7)))) : Mm); μ13)))))
def p_X11_cares (p0 : Int32)  (μ : Mm) : Prop := (¬ ((v_X1_has 1 p0 μ) = 0) → (p_X6_latest μ) ∧ (whP (fun s : Int32 × Int32 × Int32 × Int32 × Int32 × Int32 × Mm => bd_X11_cares_33  s.1 s.2.1 s.2.2.1 s.2.2.2.1 s.2.2.2.2.1 s.2.2.2.2.2.1 s.2.2.2.2.2.2) (fun s : Int32 × Int32 × Int32 × Int32 × Int32 × Int32 × Mm => sd_X11_cares_33   s.1 s.2.1 s.2.2.1 s.2.2.2.1 s.2.2.2.2.1 s.2.2.2.2.2.1 s.2.2.2.2.2.2) FU (p0, (v_X6_latest  μ), 0, 0, 0, (-9), μ)) ∧ (∀ r4 : Int32 × Int32 × Int32 × Mm, r4 = whl (fun s : Int32 × Int32 × Int32 × Int32 × Int32 × Int32 × Mm => bd_X11_cares_33  s.1 s.2.1 s.2.2.1 s.2.2.2.1 s.2.2.2.2.1 s.2.2.2.2.2.1 s.2.2.2.2.2.2) (fun s : Int32 × Int32 × Int32 × Int32 × Int32 × Int32 × Mm => (0, 0, 0, s.2.2.2.2.2.2)) FU (p0, (v_X6_latest  μ), 0, 0, 0, (-9), μ) → (∀ μ5 : Mm, μ5 = (e_X10_begin  (r4.2.2.2)) → (p_X10_add (Int32.toInt64 (v_J6_bitCount_0f7a4 (r4.1))) μ5) ∧ (∀ μ7 : Mm, μ7 = (e_X10_add (Int32.toInt64 (v_J6_bitCount_0f7a4 (r4.1))) μ5) → (¬ ((r4.1) = 0) → (p_X10_add (Int32.toInt64 (100 + (r4.2.1))) μ7) ∧ (∀ μ10 : Mm, μ10 = (e_X10_add (Int32.toInt64 (100 + (r4.2.1))) μ7) → p_X10_add (Int32.toInt64 (100 + (r4.2.2.1))) μ10))))))
set_option maxRecDepth 20000 in
set_option maxHeartbeats 4000000 in
theorem con_X11_cares {E : Ex} {Q : Option Value → Mm → Prop} {p0 : Int32} {μ : Mm} (t : p_X11_cares p0  μ) (k : Q (some (.int (v_X11_cares p0 μ))) (e_X11_cares p0 μ)) : Con E 6 mX11_cares [rf E 0, .int p0] μ Q := by
  refine Con_J (by decide +kernel) (Nat.le_of_ble_eq_true rfl) (fun G => ?_)
  unfold v_X11_cares e_X11_cares at k
  unfold p_X11_cares at t
  refine J_sub (ls' := [(0, rf E 0), (1, .int p0)]) [0, 1] rfl ?_
  refine J_aload_n (dk okX11_cares 0 rfl) 0 rfl rfl ?_
  refine J_getR (dk okX11_cares 1 rfl) kfX11_12 ds_0 rfl ?_
  refine J_iload_n (dk okX11_cares 2 rfl) 1 rfl rfl ?_
  refine J_callVi (As := [.int p0]) (dk okX11_cares 3 rfl) ds_1 rfl vkX1_has lkX11_138 rfl rfl (Nat.le_of_ble_eq_true rfl) (by decide) (con_X1_has FloorAt_1 ⟨_, rfl, ?_⟩)
  refine J_if_ne (tgt := 13) (dk okX11_cares 4 rfl) (by decide) (fun h1 => ?_) (fun h1 => ?_)
  · have t := t h1
    refine J_aload_n (dk okX11_cares 7 rfl) 0 rfl rfl ?_
    refine J_getR (dk okX11_cares 8 rfl) kfX11_67 ds_0 rfl ?_
    obtain ⟨s2, t⟩ := t
    refine J_callVi (As := []) (dk okX11_cares 9 rfl) ds_38 rfl vkX6_latest lkX11_336 rfl rfl (Nat.le_of_ble_eq_true rfl) (by decide) (con_X6_latest s2 ⟨_, rfl, ?_⟩)
    refine J_istore_n (ls' := [(2, _), (0, _), (1, _)]) (dk okX11_cares 10 rfl) rfl (by decide) rfl ?_
    refine J_iconst (v := 0) (dk okX11_cares 11 rfl) (by decide) ?_
    refine J_istore_n (ls' := [(3, _), (2, _), (0, _), (1, _)]) (dk okX11_cares 12 rfl) rfl (by decide) rfl ?_
    refine J_iconst (v := 0) (dk okX11_cares 13 rfl) (by decide) ?_
    refine J_istore (ls' := [(4, _), (3, _), (2, _), (0, _), (1, _)]) (dk okX11_cares 14 rfl) (by decide) rfl ?_
    refine J_iconst (v := 0) (dk okX11_cares 15 rfl) (by decide) ?_
    refine J_istore (ls' := [(5, _), (4, _), (3, _), (2, _), (0, _), (1, _)]) (dk okX11_cares 16 rfl) (by decide) rfl ?_
    refine J_bipush (v := (-9)) (dk okX11_cares 17 rfl) (by decide) ?_
    refine J_istore (ls' := [(6, _), (5, _), (4, _), (3, _), (2, _), (0, _), (1, _)]) (dk okX11_cares 18 rfl) (by decide) rfl ?_
    obtain ⟨s3, t⟩ := t
    refine J_sub (ls' := [(0, _), (1, _), (2, _), (3, _), (4, _), (5, _), (6, _)]) [5, 6, 4, 3, 2, 1, 0] rfl ?_
    refine lw_X11_cares_33  s3 (fun r4 er4 => ?_)
    have t := t r4 er4
    refine J_aload_n (dk okX11_cares 46 rfl) 0 rfl rfl ?_
    refine J_getR (dk okX11_cares 47 rfl) kfX11_39 ds_0 rfl ?_
    refine J_callVv (As := []) (dk okX11_cares 48 rfl) ds_27 rfl vkX10_begin lkX11_196 rfl rfl (Nat.le_of_ble_eq_true rfl) (by decide) (con_X10_begin  ⟨rfl, ?_⟩)
    refine J_nm (fun μ5 eμ5 => ?_)
    have t := t μ5 eμ5
    refine J_aload_n (dk okX11_cares 49 rfl) 0 rfl rfl ?_
    refine J_getR (dk okX11_cares 50 rfl) kfX11_39 ds_0 rfl ?_
    refine J_iload_n (dk okX11_cares 51 rfl) 1 rfl rfl ?_
    refine J_callSi (As := [.int (r4.1)]) (dk okX11_cares 52 rfl) skJ6_bitCount_0f7a4 lkX11_206 rfl rfl (Nat.le_of_ble_eq_true rfl) (by decide) (con_J6_bitCount_0f7a4  ⟨_, rfl, ?_⟩)
    refine J_i2l (dk okX11_cares 53 rfl) ?_
    obtain ⟨s6, t⟩ := t
    refine J_callVv (As := [.long (Int32.toInt64 (v_J6_bitCount_0f7a4 (r4.1)))]) (dk okX11_cares 54 rfl) ds_27 rfl vkX10_add lkX11_199 rfl rfl (Nat.le_of_ble_eq_true rfl) (by decide) (con_X10_add s6 ⟨rfl, ?_⟩)
    refine J_nm (fun μ7 eμ7 => ?_)
    have t := t μ7 eμ7
    refine J_iload_n (dk okX11_cares 55 rfl) 1 rfl rfl ?_
    have K14 : J E G 6 mX11_cares Q 133 [(3, .int (r4.1))] [] (if (r4.1) = 0 then μ7 else ((e_X10_add (Int32.toInt64 (100 + (r4.2.2.1))) ((e_X10_add (Int32.toInt64 (100 + (r4.2.1))) μ7)))) : Mm) := by
      refine J_nm (fun μ13 eμ13 => ?_)
      refine J_iload_n (dk okX11_cares 71 rfl) 0 rfl rfl ?_
      subst eμ13 eμ7 eμ5 er4
      (try simp only [if_neg h1] at k ⊢)
      exact J_iret (dk okX11_cares 72 rfl) rfl k
    refine J_if_eq (tgt := 133) (dk okX11_cares 56 rfl) (by decide) (fun h8 => ?_) (fun h8 => ?_)
    · refine J_sub (ls' := [(3, _)]) [1] rfl ?_
      (try simp only [if_pos h8] at K14 ⊢); exact K14
    · have t := t h8
      refine J_aload_n (dk okX11_cares 57 rfl) 0 rfl rfl ?_
      refine J_getR (dk okX11_cares 58 rfl) kfX11_39 ds_0 rfl ?_
      refine J_bipush (v := 100) (dk okX11_cares 59 rfl) (by decide) ?_
      refine J_iload (dk okX11_cares 60 rfl) 2 rfl ?_
      refine J_iadd (dk okX11_cares 61 rfl) ?_
      refine J_i2l (dk okX11_cares 62 rfl) ?_
      obtain ⟨s9, t⟩ := t
      refine J_callVv (As := [.long (Int32.toInt64 (100 + (r4.2.1)))]) (dk okX11_cares 63 rfl) ds_27 rfl vkX10_add lkX11_199 rfl rfl (Nat.le_of_ble_eq_true rfl) (by decide) (con_X10_add s9 ⟨rfl, ?_⟩)
      refine J_nm (fun μ10 eμ10 => ?_)
      have t := t μ10 eμ10
      refine J_aload_n (dk okX11_cares 64 rfl) 0 rfl rfl ?_
      refine J_getR (dk okX11_cares 65 rfl) kfX11_39 ds_0 rfl ?_
      refine J_bipush (v := 100) (dk okX11_cares 66 rfl) (by decide) ?_
      refine J_iload (dk okX11_cares 67 rfl) 3 rfl ?_
      refine J_iadd (dk okX11_cares 68 rfl) ?_
      refine J_i2l (dk okX11_cares 69 rfl) ?_
      have s11 := t
      refine J_callVv (As := [.long (Int32.toInt64 (100 + (r4.2.2.1)))]) (dk okX11_cares 70 rfl) ds_27 rfl vkX10_add lkX11_199 rfl rfl (Nat.le_of_ble_eq_true rfl) (by decide) (con_X10_add s11 ⟨rfl, ?_⟩)
      refine J_nm (fun μ12 eμ12 => ?_)
      subst eμ12 eμ10
      refine J_sub (ls' := [(3, _)]) [1] rfl ?_
      (try simp only [if_neg h8] at K14 ⊢); exact K14
  · refine J_iconst (v := (-1)) (dk okX11_cares 5 rfl) (by decide) ?_
    (try simp only [if_pos h1] at k ⊢)
    exact J_iret (dk okX11_cares 6 rfl) rfl k
/-- VotingFloor.decides()I -/
noncomputable def v_X11_decides  (μ : Mm) : Int32 := (let μ2 : Mm := (e_X1_become 8 1 μ); (v_X11_direction (v_X1_goTillNoon 8 15 μ2)))
noncomputable def e_X11_decides  (μ : Mm) : Mm := (let μ2 : Mm := (e_X1_become 8 1 μ); (let μ4 : Mm := (e_X1_goTillNoon 8 15 μ2); (let μ5 : Mm := (e_X10_begin  μ4); (let μ7 : Mm := (e_X10_add (Int32.toInt64 (2000 + (v_X1_goTillNoon 8 15 μ2))) μ5); (let μ9 : Mm := (e_X11_tellPlacesOfTrial  μ7); μ9)))))
def p_X11_decides   (μ : Mm) : Prop := (p_X1_become 8 1 μ) ∧ (∀ μ2 : Mm, μ2 = (e_X1_become 8 1 μ) → (p_X1_goTillNoon 8 15 μ2) ∧ (∀ μ4 : Mm, μ4 = (e_X1_goTillNoon 8 15 μ2) → (∀ μ5 : Mm, μ5 = (e_X10_begin  μ4) → (p_X10_add (Int32.toInt64 (2000 + (v_X1_goTillNoon 8 15 μ2))) μ5) ∧ (∀ μ7 : Mm, μ7 = (e_X10_add (Int32.toInt64 (2000 + (v_X1_goTillNoon 8 15 μ2))) μ5) → p_X11_tellPlacesOfTrial μ7))))
set_option maxRecDepth 20000 in
set_option maxHeartbeats 4000000 in
theorem con_X11_decides {E : Ex} {Q : Option Value → Mm → Prop} {μ : Mm} (t : p_X11_decides   μ) (k : Q (some (.int (v_X11_decides  μ))) (e_X11_decides  μ)) : Con E 6 mX11_decides [rf E 0] μ Q := by
  refine Con_J (by decide +kernel) (Nat.le_of_ble_eq_true rfl) (fun G => ?_)
  unfold v_X11_decides e_X11_decides at k
  unfold p_X11_decides at t
  refine J_sub (ls' := [(0, rf E 0)]) [0] rfl ?_
  refine J_aload_n (dk okX11_decides 0 rfl) 0 rfl rfl ?_
  refine J_getR (dk okX11_decides 1 rfl) kfX11_16 ds_0 rfl ?_
  refine J_aload_n (dk okX11_decides 2 rfl) 0 rfl rfl ?_
  refine J_getR (dk okX11_decides 3 rfl) kfX11_12 ds_0 rfl ?_
  obtain ⟨s1, t⟩ := t
  refine J_callVv (As := [rf E 1]) (dk okX11_decides 4 rfl) ds_8 rfl vkX1_become lkX11_259 rfl rfl (Nat.le_of_ble_eq_true rfl) (by decide) (con_X1_become FloorAt_8 FloorAt_1 s1 ⟨rfl, ?_⟩)
  refine J_nm (fun μ2 eμ2 => ?_)
  have t := t μ2 eμ2
  refine J_aload_n (dk okX11_decides 5 rfl) 0 rfl rfl ?_
  refine J_getR (dk okX11_decides 6 rfl) kfX11_16 ds_0 rfl ?_
  refine J_aload_n (dk okX11_decides 7 rfl) 0 rfl rfl ?_
  refine J_getR (dk okX11_decides 8 rfl) kfX11_22 ds_0 rfl ?_
  obtain ⟨s3, t⟩ := t
  refine J_callVi (As := [rf E 15]) (dk okX11_decides 9 rfl) ds_8 rfl vkX1_goTillNoon lkX11_261 rfl rfl (Nat.le_of_ble_eq_true rfl) (by decide) (con_X1_goTillNoon FloorAt_8 RuleAt_15 s3 ⟨_, rfl, ?_⟩)
  refine J_nm (fun μ4 eμ4 => ?_)
  have t := t μ4 eμ4
  refine J_istore_n (ls' := [(1, _), (0, _)]) (dk okX11_decides 10 rfl) rfl (by decide) rfl ?_
  refine J_aload_n (dk okX11_decides 11 rfl) 1 rfl rfl ?_
  refine J_getR (dk okX11_decides 12 rfl) kfX11_39 ds_0 rfl ?_
  refine J_callVv (As := []) (dk okX11_decides 13 rfl) ds_27 rfl vkX10_begin lkX11_196 rfl rfl (Nat.le_of_ble_eq_true rfl) (by decide) (con_X10_begin  ⟨rfl, ?_⟩)
  refine J_nm (fun μ5 eμ5 => ?_)
  have t := t μ5 eμ5
  refine J_aload_n (dk okX11_decides 14 rfl) 1 rfl rfl ?_
  refine J_getR (dk okX11_decides 15 rfl) kfX11_39 ds_0 rfl ?_
  refine J_sipush (v := 2000) (dk okX11_decides 16 rfl) (by decide) ?_
  refine J_iload_n (dk okX11_decides 17 rfl) 0 rfl rfl ?_
  refine J_iadd (dk okX11_decides 18 rfl) ?_
  refine J_i2l (dk okX11_decides 19 rfl) ?_
  obtain ⟨s6, t⟩ := t
  refine J_callVv (As := [.long (Int32.toInt64 (2000 + (v_X1_goTillNoon 8 15 μ2)))]) (dk okX11_decides 20 rfl) ds_27 rfl vkX10_add lkX11_199 rfl rfl (Nat.le_of_ble_eq_true rfl) (by decide) (con_X10_add s6 ⟨rfl, ?_⟩)
  refine J_nm (fun μ7 eμ7 => ?_)
  have t := t μ7 eμ7
  refine J_aload_n (dk okX11_decides 21 rfl) 1 rfl rfl ?_
  have s8 := t
  refine J_callVv (As := []) (dk okX11_decides 22 rfl) ds_0 rfl vkX11_tellPlacesOfTrial lkX11_265 rfl rfl (Nat.le_of_ble_eq_true rfl) (by decide) (con_X11_tellPlacesOfTrial s8 ⟨rfl, ?_⟩)
  refine J_nm (fun μ9 eμ9 => ?_)
  refine J_iload_n (dk okX11_decides 23 rfl) 0 rfl rfl ?_
  refine J_callSi (As := [.int (v_X1_goTillNoon 8 15 μ2)]) (dk okX11_decides 24 rfl) skX11_direction lkX11_256 rfl rfl (Nat.le_of_ble_eq_true rfl) (by decide) (con_X11_direction  ⟨_, rfl, ?_⟩)
  subst eμ9 eμ7 eμ5 eμ4 eμ2
  exact J_iret (dk okX11_decides 25 rfl) rfl k
noncomputable def bd_X11_gatherCrowds_2  (x1 : Int32) (x2 : Int32) (μ : Mm) : (Int32 × Int32 × Mm) ⊕ (Int32 × Mm) := (if (Int32.ofNat 399) ≤ x2 then .inr (x1, μ) else (let μ3 : Mm := (upI μ 47 (Int32.toNatClampNeg x2) 0); .inl (x1, (x2 + 1), μ3)))
def sd_X11_gatherCrowds_2   (x1 : Int32) (x2 : Int32) (μ : Mm) : Prop := (¬ ((Int32.ofNat 399) ≤ x2) → vp_in x2 399)
set_option maxRecDepth 20000 in
set_option maxHeartbeats 4000000 in
theorem lw_X11_gatherCrowds_2 {E : Ex} {G : Gx} {Q : Option Value → Mm → Prop} {x1 : Int32} {x2 : Int32} {μ : Mm}  (p : whP (fun s : Int32 × Int32 × Mm => bd_X11_gatherCrowds_2  s.1 s.2.1 s.2.2) (fun s : Int32 × Int32 × Mm => sd_X11_gatherCrowds_2   s.1 s.2.1 s.2.2) FU (x1, x2, μ)) (k : ∀ r : Int32 × Mm, r = whl (fun s : Int32 × Int32 × Mm => bd_X11_gatherCrowds_2  s.1 s.2.1 s.2.2) (fun s : Int32 × Int32 × Mm => (0, s.2.2)) FU (x1, x2, μ) → J E G 6 mX11_gatherCrowds Q 24 [(0, rf E 0), (1, .int (r.1))] [] (r.2)) : J E G 6 mX11_gatherCrowds Q 2 [(0, rf E 0), (1, .int x1), (2, .int x2)] [] μ := by
  refine J_whl (f := (fun s : Int32 × Int32 × Mm => bd_X11_gatherCrowds_2  s.1 s.2.1 s.2.2)) (dd := (fun s : Int32 × Int32 × Mm => (0, s.2.2))) (sd := (fun s : Int32 × Int32 × Mm => sd_X11_gatherCrowds_2   s.1 s.2.1 s.2.2)) (P := fun s : Int32 × Int32 × Mm => J E G 6 mX11_gatherCrowds Q 2 [(0, rf E 0), (1, .int (s.1)), (2, .int (s.2.1))] [] (s.2.2)) (R := fun r : Int32 × Mm => J E G 6 mX11_gatherCrowds Q 24 [(0, rf E 0), (1, .int (r.1))] [] (r.2)) ?_ FU (x1, x2, μ) p (k _ rfl)
  clear p k
  rintro ⟨x1, x2, μ⟩ t k1 k2
  dsimp only [sd_X11_gatherCrowds_2] at t
  have kb : ∀ (y1 : Int32) (y2 : Int32) (μ9 : Mm), bd_X11_gatherCrowds_2  x1 x2 μ = .inl (y1, y2, μ9) → J E G 6 mX11_gatherCrowds Q 2 [(0, rf E 0), (1, .int y1), (2, .int y2)] [] μ9 := fun y1 y2 μ9 h => k1 (y1, y2, μ9) h
  have kx : ∀ (y1 : Int32) (μ9 : Mm), bd_X11_gatherCrowds_2  x1 x2 μ = .inr (y1, μ9) → J E G 6 mX11_gatherCrowds Q 24 [(0, rf E 0), (1, .int y1)] [] μ9 := fun y1 μ9 h => k2 (y1, μ9) h
  clear k1 k2
  refine J_iload_n (dk okX11_gatherCrowds 2 rfl) 2 rfl rfl ?_
  refine J_aload_n (dk okX11_gatherCrowds 3 rfl) 0 rfl rfl ?_
  refine J_getR (dk okX11_gatherCrowds 4 rfl) kfX11_89 ds_0 rfl ?_
  refine J_alen (by decide) (by decide) (dk okX11_gatherCrowds 5 rfl) ds_47 ?_
  refine J_icmp_ge (tgt := 24) (dk okX11_gatherCrowds 6 rfl) (by decide) (fun h1 => ?_) (fun h1 => ?_)
  · exact J_sub [0, 1] rfl (kx x1 μ (by unfold bd_X11_gatherCrowds_2; first | (simp only [if_pos h1]; done) | (simp only [if_pos h1]; rfl) | rfl))
  · have t := t h1
    refine J_aload_n (dk okX11_gatherCrowds 7 rfl) 0 rfl rfl ?_
    refine J_getR (dk okX11_gatherCrowds 8 rfl) kfX11_89 ds_0 rfl ?_
    refine J_iload_n (dk okX11_gatherCrowds 9 rfl) 2 rfl rfl ?_
    refine J_iconst (v := 0) (dk okX11_gatherCrowds 10 rfl) (by decide) ?_
    have s2 := t
    refine J_iast (dk okX11_gatherCrowds 11 rfl) ds_47 s2 ?_
    refine J_nm (fun μ3 eμ3 => ?_)
    refine J_iinc (v := (x2 + 1)) (ls' := [(2, _), (0, _), (1, _)]) (dk okX11_gatherCrowds 12 rfl) 2 rfl rfl (by decide) rfl ?_
    refine J_goto (tgt := 2) (dk okX11_gatherCrowds 13 rfl) (by decide) ?_
    exact J_sub [1, 2, 0] rfl (kb x1 (x2 + 1) μ3 (by subst eμ3; unfold bd_X11_gatherCrowds_2; first | (simp only [if_neg h1]; done) | (simp only [if_neg h1]; rfl) | rfl))
noncomputable def bd_X11_gatherCrowds_51  (x1 : Int32) (x2 : Int32) (x3 : Int32) (x4 : Int32) (μ : Mm) : (Int32 × Int32 × Int32 × Int32 × Mm) ⊕ (Int32 × Int32 × Int32 × Mm) := (if 20 < x4 then .inr (x1, x2, x3, μ) else (let μ5 : Mm := (upI μ 47 (Int32.toNatClampNeg (((x4 * 19) + 9) + (μ.1 46 (Int32.toNatClampNeg x4)))) ((μ.1 47 (Int32.toNatClampNeg (((x4 * 19) + 9) + (μ.1 46 (Int32.toNatClampNeg x4))))) + 1)); .inl (x1, x2, x3, (x4 + 1), μ5)))
def sd_X11_gatherCrowds_51   (x1 : Int32) (x2 : Int32) (x3 : Int32) (x4 : Int32) (μ : Mm) : Prop := (¬ (20 < x4) → (vp_in x4 21) ∧ (vp_in (((x4 * 19) + 9) + (μ.1 46 (Int32.toNatClampNeg x4))) 399) ∧ vp_in (((x4 * 19) + 9) + (μ.1 46 (Int32.toNatClampNeg x4))) 399)
set_option maxRecDepth 20000 in
set_option maxHeartbeats 4000000 in
theorem lw_X11_gatherCrowds_51 {E : Ex} {G : Gx} {Q : Option Value → Mm → Prop} {x1 : Int32} {x2 : Int32} {x3 : Int32} {x4 : Int32} {μ : Mm}  (p : whP (fun s : Int32 × Int32 × Int32 × Int32 × Mm => bd_X11_gatherCrowds_51  s.1 s.2.1 s.2.2.1 s.2.2.2.1 s.2.2.2.2) (fun s : Int32 × Int32 × Int32 × Int32 × Mm => sd_X11_gatherCrowds_51   s.1 s.2.1 s.2.2.1 s.2.2.2.1 s.2.2.2.2) FU (x1, x2, x3, x4, μ)) (k : ∀ r : Int32 × Int32 × Int32 × Mm, r = whl (fun s : Int32 × Int32 × Int32 × Int32 × Mm => bd_X11_gatherCrowds_51  s.1 s.2.1 s.2.2.1 s.2.2.2.1 s.2.2.2.2) (fun s : Int32 × Int32 × Int32 × Int32 × Mm => (0, 0, 0, s.2.2.2.2)) FU (x1, x2, x3, x4, μ) → J E G 6 mX11_gatherCrowds Q 89 [(0, rf E 0), (1, .int (r.1)), (2, .int (r.2.1)), (3, .int (r.2.2.1))] [] (r.2.2.2)) : J E G 6 mX11_gatherCrowds Q 51 [(0, rf E 0), (1, .int x1), (2, .int x2), (3, .int x3), (4, .int x4)] [] μ := by
  refine J_whl (f := (fun s : Int32 × Int32 × Int32 × Int32 × Mm => bd_X11_gatherCrowds_51  s.1 s.2.1 s.2.2.1 s.2.2.2.1 s.2.2.2.2)) (dd := (fun s : Int32 × Int32 × Int32 × Int32 × Mm => (0, 0, 0, s.2.2.2.2))) (sd := (fun s : Int32 × Int32 × Int32 × Int32 × Mm => sd_X11_gatherCrowds_51   s.1 s.2.1 s.2.2.1 s.2.2.2.1 s.2.2.2.2)) (P := fun s : Int32 × Int32 × Int32 × Int32 × Mm => J E G 6 mX11_gatherCrowds Q 51 [(0, rf E 0), (1, .int (s.1)), (2, .int (s.2.1)), (3, .int (s.2.2.1)), (4, .int (s.2.2.2.1))] [] (s.2.2.2.2)) (R := fun r : Int32 × Int32 × Int32 × Mm => J E G 6 mX11_gatherCrowds Q 89 [(0, rf E 0), (1, .int (r.1)), (2, .int (r.2.1)), (3, .int (r.2.2.1))] [] (r.2.2.2)) ?_ FU (x1, x2, x3, x4, μ) p (k _ rfl)
  clear p k
  rintro ⟨x1, x2, x3, x4, μ⟩ t k1 k2
  dsimp only [sd_X11_gatherCrowds_51] at t
  have kb : ∀ (y1 : Int32) (y2 : Int32) (y3 : Int32) (y4 : Int32) (μ9 : Mm), bd_X11_gatherCrowds_51  x1 x2 x3 x4 μ = .inl (y1, y2, y3, y4, μ9) → J E G 6 mX11_gatherCrowds Q 51 [(0, rf E 0), (1, .int y1), (2, .int y2), (3, .int y3), (4, .int y4)] [] μ9 := fun y1 y2 y3 y4 μ9 h => k1 (y1, y2, y3, y4, μ9) h
  have kx : ∀ (y1 : Int32) (y2 : Int32) (y3 : Int32) (μ9 : Mm), bd_X11_gatherCrowds_51  x1 x2 x3 x4 μ = .inr (y1, y2, y3, μ9) → J E G 6 mX11_gatherCrowds Q 89 [(0, rf E 0), (1, .int y1), (2, .int y2), (3, .int y3)] [] μ9 := fun y1 y2 y3 μ9 h => k2 (y1, y2, y3, μ9) h
  clear k1 k2
  refine J_iload (dk okX11_gatherCrowds 31 rfl) 4 rfl ?_
  refine J_bipush (v := 20) (dk okX11_gatherCrowds 32 rfl) (by decide) ?_
  refine J_icmp_gt (tgt := 89) (dk okX11_gatherCrowds 33 rfl) (by decide) (fun h1 => ?_) (fun h1 => ?_)
  · exact J_sub [0, 1, 2, 3] rfl (kx x1 x2 x3 μ (by unfold bd_X11_gatherCrowds_51; first | (simp only [if_pos h1]; done) | (simp only [if_pos h1]; rfl) | rfl))
  · have t := t h1
    refine J_aload_n (dk okX11_gatherCrowds 34 rfl) 0 rfl rfl ?_
    refine J_getR (dk okX11_gatherCrowds 35 rfl) kfX11_89 ds_0 rfl ?_
    refine J_iload (dk okX11_gatherCrowds 36 rfl) 4 rfl ?_
    refine J_bipush (v := 19) (dk okX11_gatherCrowds 37 rfl) (by decide) ?_
    refine J_imul (dk okX11_gatherCrowds 38 rfl) ?_
    refine J_bipush (v := 9) (dk okX11_gatherCrowds 39 rfl) (by decide) ?_
    refine J_iadd (dk okX11_gatherCrowds 40 rfl) ?_
    refine J_aload_n (dk okX11_gatherCrowds 41 rfl) 0 rfl rfl ?_
    refine J_getR (dk okX11_gatherCrowds 42 rfl) kfX11_85 ds_0 rfl ?_
    refine J_iload (dk okX11_gatherCrowds 43 rfl) 4 rfl ?_
    obtain ⟨s2, t⟩ := t
    refine J_iald (dk okX11_gatherCrowds 44 rfl) ds_46 s2 ?_
    refine J_iadd (dk okX11_gatherCrowds 45 rfl) ?_
    refine J_dup2 (dk okX11_gatherCrowds 46 rfl) rfl rfl ?_
    obtain ⟨s3, t⟩ := t
    refine J_iald (dk okX11_gatherCrowds 47 rfl) ds_47 s3 ?_
    refine J_iconst (v := 1) (dk okX11_gatherCrowds 48 rfl) (by decide) ?_
    refine J_iadd (dk okX11_gatherCrowds 49 rfl) ?_
    have s4 := t
    refine J_iast (dk okX11_gatherCrowds 50 rfl) ds_47 s4 ?_
    refine J_nm (fun μ5 eμ5 => ?_)
    refine J_iinc (v := (x4 + 1)) (ls' := [(4, _), (0, _), (1, _), (2, _), (3, _)]) (dk okX11_gatherCrowds 51 rfl) 4 rfl rfl (by decide) rfl ?_
    refine J_goto (tgt := 51) (dk okX11_gatherCrowds 52 rfl) (by decide) ?_
    exact J_sub [1, 2, 3, 4, 0] rfl (kb x1 x2 x3 (x4 + 1) μ5 (by subst eμ5; unfold bd_X11_gatherCrowds_51; first | (simp only [if_neg h1]; done) | (simp only [if_neg h1]; rfl) | rfl))
noncomputable def bd_X11_gatherCrowds_29  (x1 : Int32) (x2 : Int32) (x3 : Int32) (μ : Mm) : (Int32 × Int32 × Int32 × Mm) ⊕ (Int32 × Mm) := (if 9 < x3 then .inr (x2, μ) else (let μ3 : Mm := (e_X11_couldWish x1 x3 20 μ); (let μ7 : Mm := (if (v_X11_couldWish x1 x3 20 μ) = 0 then μ3 else ((whl (fun s : Int32 × Int32 × Int32 × Int32 × Mm => bd_X11_gatherCrowds_51  s.1 s.2.1 s.2.2.1 s.2.2.2.1 s.2.2.2.2) (fun s : Int32 × Int32 × Int32 × Int32 × Mm => (0, 0, 0, s.2.2.2.2)) FU (x1, 1, x3, 0, μ3)).2.2.2) : Mm); .inl ((if (v_X11_couldWish x1 x3 20 μ) = 0 then x1 else ((whl (fun s : Int32 × Int32 × Int32 × Int32 × Mm => bd_X11_gatherCrowds_51  s.1 s.2.1 s.2.2.1 s.2.2.2.1 s.2.2.2.2) (fun s : Int32 × Int32 × Int32 × Int32 × Mm => (0, 0, 0, s.2.2.2.2)) FU (x1, 1, x3, 0, μ3)).1) : Int32), (if (v_X11_couldWish x1 x3 20 μ) = 0 then x2 else ((whl (fun s : Int32 × Int32 × Int32 × Int32 × Mm => bd_X11_gatherCrowds_51  s.1 s.2.1 s.2.2.1 s.2.2.2.1 s.2.2.2.2) (fun s : Int32 × Int32 × Int32 × Int32 × Mm => (0, 0, 0, s.2.2.2.2)) FU (x1, 1, x3, 0, μ3)).2.1) : Int32), ((if (v_X11_couldWish x1 x3 20 μ) = 0 then x3 else ((whl (fun s : Int32 × Int32 × Int32 × Int32 × Mm => bd_X11_gatherCrowds_51  s.1 s.2.1 s.2.2.1 s.2.2.2.1 s.2.2.2.2) (fun s : Int32 × Int32 × Int32 × Int32 × Mm => (0, 0, 0, s.2.2.2.2)) FU (x1, 1, x3, 0, μ3)).2.2.1) : Int32) + 1), μ7))))
def sd_X11_gatherCrowds_29   (x1 : Int32) (x2 : Int32) (x3 : Int32) (μ : Mm) : Prop := (¬ (9 < x3) → (p_X11_couldWish x1 x3 20 μ) ∧ (∀ μ3 : Mm, μ3 = (e_X11_couldWish x1 x3 20 μ) → (¬ ((v_X11_couldWish x1 x3 20 μ) = 0) → whP (fun s : Int32 × Int32 × Int32 × Int32 × Mm => bd_X11_gatherCrowds_51  s.1 s.2.1 s.2.2.1 s.2.2.2.1 s.2.2.2.2) (fun s : Int32 × Int32 × Int32 × Int32 × Mm => sd_X11_gatherCrowds_51   s.1 s.2.1 s.2.2.1 s.2.2.2.1 s.2.2.2.2) FU (x1, 1, x3, 0, μ3))))
set_option maxRecDepth 20000 in
set_option maxHeartbeats 4000000 in
theorem lw_X11_gatherCrowds_29 {E : Ex} {G : Gx} {Q : Option Value → Mm → Prop} {x1 : Int32} {x2 : Int32} {x3 : Int32} {μ : Mm}  (p : whP (fun s : Int32 × Int32 × Int32 × Mm => bd_X11_gatherCrowds_29  s.1 s.2.1 s.2.2.1 s.2.2.2) (fun s : Int32 × Int32 × Int32 × Mm => sd_X11_gatherCrowds_29   s.1 s.2.1 s.2.2.1 s.2.2.2) FU (x1, x2, x3, μ)) (k : ∀ r : Int32 × Mm, r = whl (fun s : Int32 × Int32 × Int32 × Mm => bd_X11_gatherCrowds_29  s.1 s.2.1 s.2.2.1 s.2.2.2) (fun s : Int32 × Int32 × Int32 × Mm => (0, s.2.2.2)) FU (x1, x2, x3, μ) → J E G 6 mX11_gatherCrowds Q 95 [(2, .int (r.1))] [] (r.2)) : J E G 6 mX11_gatherCrowds Q 29 [(0, rf E 0), (1, .int x1), (2, .int x2), (3, .int x3)] [] μ := by
  refine J_whl (f := (fun s : Int32 × Int32 × Int32 × Mm => bd_X11_gatherCrowds_29  s.1 s.2.1 s.2.2.1 s.2.2.2)) (dd := (fun s : Int32 × Int32 × Int32 × Mm => (0, s.2.2.2))) (sd := (fun s : Int32 × Int32 × Int32 × Mm => sd_X11_gatherCrowds_29   s.1 s.2.1 s.2.2.1 s.2.2.2)) (P := fun s : Int32 × Int32 × Int32 × Mm => J E G 6 mX11_gatherCrowds Q 29 [(0, rf E 0), (1, .int (s.1)), (2, .int (s.2.1)), (3, .int (s.2.2.1))] [] (s.2.2.2)) (R := fun r : Int32 × Mm => J E G 6 mX11_gatherCrowds Q 95 [(2, .int (r.1))] [] (r.2)) ?_ FU (x1, x2, x3, μ) p (k _ rfl)
  clear p k
  rintro ⟨x1, x2, x3, μ⟩ t k1 k2
  dsimp only [sd_X11_gatherCrowds_29] at t
  have kb : ∀ (y1 : Int32) (y2 : Int32) (y3 : Int32) (μ9 : Mm), bd_X11_gatherCrowds_29  x1 x2 x3 μ = .inl (y1, y2, y3, μ9) → J E G 6 mX11_gatherCrowds Q 29 [(0, rf E 0), (1, .int y1), (2, .int y2), (3, .int y3)] [] μ9 := fun y1 y2 y3 μ9 h => k1 (y1, y2, y3, μ9) h
  have kx : ∀ (y2 : Int32) (μ9 : Mm), bd_X11_gatherCrowds_29  x1 x2 x3 μ = .inr (y2, μ9) → J E G 6 mX11_gatherCrowds Q 95 [(2, .int y2)] [] μ9 := fun y2 μ9 h => k2 (y2, μ9) h
  clear k1 k2
  refine J_iload_n (dk okX11_gatherCrowds 18 rfl) 3 rfl rfl ?_
  refine J_bipush (v := 9) (dk okX11_gatherCrowds 19 rfl) (by decide) ?_
  refine J_icmp_gt (tgt := 95) (dk okX11_gatherCrowds 20 rfl) (by decide) (fun h1 => ?_) (fun h1 => ?_)
  · exact J_sub [2] rfl (kx x2 μ (by unfold bd_X11_gatherCrowds_29; first | (simp only [if_pos h1]; done) | (simp only [if_pos h1]; rfl) | rfl))
  · have t := t h1
    refine J_aload_n (dk okX11_gatherCrowds 21 rfl) 0 rfl rfl ?_
    refine J_iload_n (dk okX11_gatherCrowds 22 rfl) 1 rfl rfl ?_
    refine J_iload_n (dk okX11_gatherCrowds 23 rfl) 3 rfl rfl ?_
    refine J_bipush (v := 20) (dk okX11_gatherCrowds 24 rfl) (by decide) ?_
    obtain ⟨s2, t⟩ := t
    refine J_callVi (As := [.int x1, .int x3, .int 20]) (dk okX11_gatherCrowds 25 rfl) ds_0 rfl vkX11_couldWish lkX11_339 rfl rfl (Nat.le_of_ble_eq_true rfl) (by decide) (con_X11_couldWish s2 ⟨_, rfl, ?_⟩)
    refine J_nm (fun μ3 eμ3 => ?_)
    have t := t μ3 eμ3
    have K8 : J E G 6 mX11_gatherCrowds Q 89 [(0, rf E 0), (1, .int (if (v_X11_couldWish x1 x3 20 μ) = 0 then x1 else ((whl (fun s : Int32 × Int32 × Int32 × Int32 × Mm => bd_X11_gatherCrowds_51  s.1 s.2.1 s.2.2.1 s.2.2.2.1 s.2.2.2.2) (fun s : Int32 × Int32 × Int32 × Int32 × Mm => (0, 0, 0, s.2.2.2.2)) FU (x1, 1, x3, 0, μ3)).1) : Int32)), (2, .int (if (v_X11_couldWish x1 x3 20 μ) = 0 then x2 else ((whl (fun s : Int32 × Int32 × Int32 × Int32 × Mm => bd_X11_gatherCrowds_51  s.1 s.2.1 s.2.2.1 s.2.2.2.1 s.2.2.2.2) (fun s : Int32 × Int32 × Int32 × Int32 × Mm => (0, 0, 0, s.2.2.2.2)) FU (x1, 1, x3, 0, μ3)).2.1) : Int32)), (3, .int (if (v_X11_couldWish x1 x3 20 μ) = 0 then x3 else ((whl (fun s : Int32 × Int32 × Int32 × Int32 × Mm => bd_X11_gatherCrowds_51  s.1 s.2.1 s.2.2.1 s.2.2.2.1 s.2.2.2.2) (fun s : Int32 × Int32 × Int32 × Int32 × Mm => (0, 0, 0, s.2.2.2.2)) FU (x1, 1, x3, 0, μ3)).2.2.1) : Int32))] [] (if (v_X11_couldWish x1 x3 20 μ) = 0 then μ3 else ((whl (fun s : Int32 × Int32 × Int32 × Int32 × Mm => bd_X11_gatherCrowds_51  s.1 s.2.1 s.2.2.1 s.2.2.2.1 s.2.2.2.2) (fun s : Int32 × Int32 × Int32 × Int32 × Mm => (0, 0, 0, s.2.2.2.2)) FU (x1, 1, x3, 0, μ3)).2.2.2) : Mm) := by
      refine J_nm (fun μ7 eμ7 => ?_)
      refine J_iinc (v := ((if (v_X11_couldWish x1 x3 20 μ) = 0 then x3 else ((whl (fun s : Int32 × Int32 × Int32 × Int32 × Mm => bd_X11_gatherCrowds_51  s.1 s.2.1 s.2.2.1 s.2.2.2.1 s.2.2.2.2) (fun s : Int32 × Int32 × Int32 × Int32 × Mm => (0, 0, 0, s.2.2.2.2)) FU (x1, 1, x3, 0, μ3)).2.2.1) : Int32) + 1)) (ls' := [(3, _), (0, _), (1, _), (2, _)]) (dk okX11_gatherCrowds 53 rfl) 3 rfl rfl (by decide) rfl ?_
      refine J_goto (tgt := 29) (dk okX11_gatherCrowds 54 rfl) (by decide) ?_
      exact J_sub [1, 2, 3, 0] rfl (kb (if (v_X11_couldWish x1 x3 20 μ) = 0 then x1 else ((whl (fun s : Int32 × Int32 × Int32 × Int32 × Mm => bd_X11_gatherCrowds_51  s.1 s.2.1 s.2.2.1 s.2.2.2.1 s.2.2.2.2) (fun s : Int32 × Int32 × Int32 × Int32 × Mm => (0, 0, 0, s.2.2.2.2)) FU (x1, 1, x3, 0, μ3)).1) : Int32) (if (v_X11_couldWish x1 x3 20 μ) = 0 then x2 else ((whl (fun s : Int32 × Int32 × Int32 × Int32 × Mm => bd_X11_gatherCrowds_51  s.1 s.2.1 s.2.2.1 s.2.2.2.1 s.2.2.2.2) (fun s : Int32 × Int32 × Int32 × Int32 × Mm => (0, 0, 0, s.2.2.2.2)) FU (x1, 1, x3, 0, μ3)).2.1) : Int32) ((if (v_X11_couldWish x1 x3 20 μ) = 0 then x3 else ((whl (fun s : Int32 × Int32 × Int32 × Int32 × Mm => bd_X11_gatherCrowds_51  s.1 s.2.1 s.2.2.1 s.2.2.2.1 s.2.2.2.2) (fun s : Int32 × Int32 × Int32 × Int32 × Mm => (0, 0, 0, s.2.2.2.2)) FU (x1, 1, x3, 0, μ3)).2.2.1) : Int32) + 1) μ7 (by subst eμ7 eμ3; unfold bd_X11_gatherCrowds_29; first | (simp only [if_neg h1]; done) | (simp only [if_neg h1]; rfl) | rfl))
    refine J_if_eq (tgt := 89) (dk okX11_gatherCrowds 26 rfl) (by decide) (fun h4 => ?_) (fun h4 => ?_)
    · refine J_sub (ls' := [(0, _), (1, _), (2, _), (3, _)]) [0, 1, 2, 3] rfl ?_
      (try simp only [if_pos h4] at K8 ⊢); exact K8
    · have t := t h4
      refine J_iconst (v := 1) (dk okX11_gatherCrowds 27 rfl) (by decide) ?_
      refine J_istore_n (ls' := [(2, _), (0, _), (1, _), (3, _)]) (dk okX11_gatherCrowds 28 rfl) rfl (by decide) rfl ?_
      refine J_iconst (v := 0) (dk okX11_gatherCrowds 29 rfl) (by decide) ?_
      refine J_istore (ls' := [(4, _), (2, _), (0, _), (1, _), (3, _)]) (dk okX11_gatherCrowds 30 rfl) (by decide) rfl ?_
      have s5 := t
      refine J_sub (ls' := [(0, _), (1, _), (2, _), (3, _), (4, _)]) [2, 3, 1, 4, 0] rfl ?_
      refine lw_X11_gatherCrowds_51  s5 (fun r6 er6 => ?_)
      subst er6
      refine J_sub (ls' := [(0, _), (1, _), (2, _), (3, _)]) [0, 1, 2, 3] rfl ?_
      (try simp only [if_neg h4] at K8 ⊢); exact K8
/-- VotingFloor.gatherCrowds(I)Z -/
noncomputable def v_X11_gatherCrowds (p0 : Int32) (μ : Mm) : Int32 := (let r2 : Int32 × Mm := whl (fun s : Int32 × Int32 × Mm => bd_X11_gatherCrowds_2  s.1 s.2.1 s.2.2) (fun s : Int32 × Int32 × Mm => (0, s.2.2)) FU (p0, 0, μ); (let r4 : Int32 × Mm := whl (fun s : Int32 × Int32 × Int32 × Mm => bd_X11_gatherCrowds_29  s.1 s.2.1 s.2.2.1 s.2.2.2) (fun s : Int32 × Int32 × Int32 × Mm => (0, s.2.2.2)) FU ((r2.1), 0, (-9), (r2.2)); (r4.1)))
noncomputable def e_X11_gatherCrowds (p0 : Int32) (μ : Mm) : Mm := (let r2 : Int32 × Mm := whl (fun s : Int32 × Int32 × Mm => bd_X11_gatherCrowds_2  s.1 s.2.1 s.2.2) (fun s : Int32 × Int32 × Mm => (0, s.2.2)) FU (p0, 0, μ); (let r4 : Int32 × Mm := whl (fun s : Int32 × Int32 × Int32 × Mm => bd_X11_gatherCrowds_29  s.1 s.2.1 s.2.2.1 s.2.2.2) (fun s : Int32 × Int32 × Int32 × Mm => (0, s.2.2.2)) FU ((r2.1), 0, (-9), (r2.2)); (r4.2)))
def p_X11_gatherCrowds (p0 : Int32)  (μ : Mm) : Prop := (whP (fun s : Int32 × Int32 × Mm => bd_X11_gatherCrowds_2  s.1 s.2.1 s.2.2) (fun s : Int32 × Int32 × Mm => sd_X11_gatherCrowds_2   s.1 s.2.1 s.2.2) FU (p0, 0, μ)) ∧ (∀ r2 : Int32 × Mm, r2 = whl (fun s : Int32 × Int32 × Mm => bd_X11_gatherCrowds_2  s.1 s.2.1 s.2.2) (fun s : Int32 × Int32 × Mm => (0, s.2.2)) FU (p0, 0, μ) → (whP (fun s : Int32 × Int32 × Int32 × Mm => bd_X11_gatherCrowds_29  s.1 s.2.1 s.2.2.1 s.2.2.2) (fun s : Int32 × Int32 × Int32 × Mm => sd_X11_gatherCrowds_29   s.1 s.2.1 s.2.2.1 s.2.2.2) FU ((r2.1), 0, (-9), (r2.2))) ∧ (∀ r4 : Int32 × Mm, r4 = whl (fun s : Int32 × Int32 × Int32 × Mm => bd_X11_gatherCrowds_29  s.1 s.2.1 s.2.2.1 s.2.2.2) (fun s : Int32 × Int32 × Int32 × Mm => (0, s.2.2.2)) FU ((r2.1), 0, (-9), (r2.2)) → narrow .boolean (.int (r4.1)) = .int (r4.1)))
set_option maxRecDepth 20000 in
set_option maxHeartbeats 4000000 in
theorem con_X11_gatherCrowds {E : Ex} {Q : Option Value → Mm → Prop} {p0 : Int32} {μ : Mm} (t : p_X11_gatherCrowds p0  μ) (k : Q (some (.int (v_X11_gatherCrowds p0 μ))) (e_X11_gatherCrowds p0 μ)) : Con E 6 mX11_gatherCrowds [rf E 0, .int p0] μ Q := by
  refine Con_J (by decide +kernel) (Nat.le_of_ble_eq_true rfl) (fun G => ?_)
  unfold v_X11_gatherCrowds e_X11_gatherCrowds at k
  unfold p_X11_gatherCrowds at t
  refine J_sub (ls' := [(0, rf E 0), (1, .int p0)]) [0, 1] rfl ?_
  refine J_iconst (v := 0) (dk okX11_gatherCrowds 0 rfl) (by decide) ?_
  refine J_istore_n (ls' := [(2, _), (0, _), (1, _)]) (dk okX11_gatherCrowds 1 rfl) rfl (by decide) rfl ?_
  obtain ⟨s1, t⟩ := t
  refine J_sub (ls' := [(0, _), (1, _), (2, _)]) [1, 2, 0] rfl ?_
  refine lw_X11_gatherCrowds_2  s1 (fun r2 er2 => ?_)
  have t := t r2 er2
  refine J_iconst (v := 0) (dk okX11_gatherCrowds 14 rfl) (by decide) ?_
  refine J_istore_n (ls' := [(2, _), (0, _), (1, _)]) (dk okX11_gatherCrowds 15 rfl) rfl (by decide) rfl ?_
  refine J_bipush (v := (-9)) (dk okX11_gatherCrowds 16 rfl) (by decide) ?_
  refine J_istore_n (ls' := [(3, _), (2, _), (0, _), (1, _)]) (dk okX11_gatherCrowds 17 rfl) rfl (by decide) rfl ?_
  obtain ⟨s3, t⟩ := t
  refine J_sub (ls' := [(0, _), (1, _), (2, _), (3, _)]) [2, 3, 1, 0] rfl ?_
  refine lw_X11_gatherCrowds_29  s3 (fun r4 er4 => ?_)
  have t := t r4 er4
  refine J_iload_n (dk okX11_gatherCrowds 55 rfl) 0 rfl rfl ?_
  have s5 := t
  subst er4 er2
  exact J_zret (dk okX11_gatherCrowds 56 rfl) rfl s5 k
/-- VotingFloor.later(II)I -/
noncomputable def v_X11_later (p0 : Int32) (p1 : Int32) (μ : Mm) : Int32 := (if (v_X1_has 1 p0 μ) = 0 then (-1) else (if p1 < 0 then (-1) else (if p1 ≤ 60 then (let μ5 : Mm := (e_X1_become 8 1 μ); (let μ7 : Mm := (e_X1_go 8 p1 15 μ5); (let μ8 : Mm := (e_X10_begin  μ7); (let μ11 : Mm := (e_X10_add (Int32.toInt64 (2000 + (v_X1_moment 8 μ8))) μ8); (100 + (μ11.1 11 (Int32.toNatClampNeg p0))))))) else (-1))))
noncomputable def e_X11_later (p0 : Int32) (p1 : Int32) (μ : Mm) : Mm := (if (v_X1_has 1 p0 μ) = 0 then μ else (if p1 < 0 then μ else (if p1 ≤ 60 then (let μ5 : Mm := (e_X1_become 8 1 μ); (let μ7 : Mm := (e_X1_go 8 p1 15 μ5); (let μ8 : Mm := (e_X10_begin  μ7); (let μ11 : Mm := (e_X10_add (Int32.toInt64 (2000 + (v_X1_moment 8 μ8))) μ8); μ11)))) else μ)))
def p_X11_later (p0 : Int32) (p1 : Int32)  (μ : Mm) : Prop := (¬ ((v_X1_has 1 p0 μ) = 0) → (¬ (p1 < 0) → (p1 ≤ 60 → (p_X1_become 8 1 μ) ∧ (∀ μ5 : Mm, μ5 = (e_X1_become 8 1 μ) → (p_X1_go 8 p1 15 μ5) ∧ (∀ μ7 : Mm, μ7 = (e_X1_go 8 p1 15 μ5) → (∀ μ8 : Mm, μ8 = (e_X10_begin  μ7) → (p_X1_moment 8 μ8) ∧ (p_X10_add (Int32.toInt64 (2000 + (v_X1_moment 8 μ8))) μ8) ∧ (∀ μ11 : Mm, μ11 = (e_X10_add (Int32.toInt64 (2000 + (v_X1_moment 8 μ8))) μ8) → vp_in p0 7)))))))
set_option maxRecDepth 20000 in
set_option maxHeartbeats 4000000 in
theorem con_X11_later {E : Ex} {Q : Option Value → Mm → Prop} {p0 : Int32} {p1 : Int32} {μ : Mm} (t : p_X11_later p0 p1  μ) (k : Q (some (.int (v_X11_later p0 p1 μ))) (e_X11_later p0 p1 μ)) : Con E 6 mX11_later [rf E 0, .int p0, .int p1] μ Q := by
  refine Con_J (by decide +kernel) (Nat.le_of_ble_eq_true rfl) (fun G => ?_)
  unfold v_X11_later e_X11_later at k
  unfold p_X11_later at t
  refine J_sub (ls' := [(0, rf E 0), (1, .int p0), (2, .int p1)]) [0, 1, 2] rfl ?_
  refine J_aload_n (dk okX11_later 0 rfl) 0 rfl rfl ?_
  refine J_getR (dk okX11_later 1 rfl) kfX11_12 ds_0 rfl ?_
  refine J_iload_n (dk okX11_later 2 rfl) 1 rfl rfl ?_
  refine J_callVi (As := [.int p0]) (dk okX11_later 3 rfl) ds_1 rfl vkX1_has lkX11_138 rfl rfl (Nat.le_of_ble_eq_true rfl) (by decide) (con_X1_has FloorAt_1 ⟨_, rfl, ?_⟩)
  refine J_if_eq (tgt := 21) (dk okX11_later 4 rfl) (by decide) (fun h1 => ?_) (fun h1 => ?_)
  · refine J_iconst (v := (-1)) (dk okX11_later 10 rfl) (by decide) ?_
    (try simp only [if_pos h1] at k ⊢)
    exact J_iret (dk okX11_later 11 rfl) rfl k
  · have t := t h1
    refine J_iload_n (dk okX11_later 5 rfl) 2 rfl rfl ?_
    refine J_if_lt (tgt := 21) (dk okX11_later 6 rfl) (by decide) (fun h2 => ?_) (fun h2 => ?_)
    · refine J_iconst (v := (-1)) (dk okX11_later 10 rfl) (by decide) ?_
      (try simp only [if_neg h1, if_pos h2] at k ⊢)
      exact J_iret (dk okX11_later 11 rfl) rfl k
    · have t := t h2
      refine J_iload_n (dk okX11_later 7 rfl) 2 rfl rfl ?_
      refine J_bipush (v := 60) (dk okX11_later 8 rfl) (by decide) ?_
      refine J_icmp_le (tgt := 23) (dk okX11_later 9 rfl) (by decide) (fun h3 => ?_) (fun h3 => ?_)
      · have t := t h3
        refine J_aload_n (dk okX11_later 12 rfl) 0 rfl rfl ?_
        refine J_getR (dk okX11_later 13 rfl) kfX11_16 ds_0 rfl ?_
        refine J_aload_n (dk okX11_later 14 rfl) 0 rfl rfl ?_
        refine J_getR (dk okX11_later 15 rfl) kfX11_12 ds_0 rfl ?_
        obtain ⟨s4, t⟩ := t
        refine J_callVv (As := [rf E 1]) (dk okX11_later 16 rfl) ds_8 rfl vkX1_become lkX11_259 rfl rfl (Nat.le_of_ble_eq_true rfl) (by decide) (con_X1_become FloorAt_8 FloorAt_1 s4 ⟨rfl, ?_⟩)
        refine J_nm (fun μ5 eμ5 => ?_)
        have t := t μ5 eμ5
        refine J_aload_n (dk okX11_later 17 rfl) 0 rfl rfl ?_
        refine J_getR (dk okX11_later 18 rfl) kfX11_16 ds_0 rfl ?_
        refine J_iload_n (dk okX11_later 19 rfl) 2 rfl rfl ?_
        refine J_aload_n (dk okX11_later 20 rfl) 0 rfl rfl ?_
        refine J_getR (dk okX11_later 21 rfl) kfX11_22 ds_0 rfl ?_
        obtain ⟨s6, t⟩ := t
        refine J_callVi (As := [.int p1, rf E 15]) (dk okX11_later 22 rfl) ds_8 rfl vkX1_go lkX11_189 rfl rfl (Nat.le_of_ble_eq_true rfl) (by decide) (con_X1_go FloorAt_8 RuleAt_15 s6 ⟨_, rfl, ?_⟩)
        refine J_nm (fun μ7 eμ7 => ?_)
        have t := t μ7 eμ7
        refine J_pop (dk okX11_later 23 rfl) rfl ?_
        refine J_aload_n (dk okX11_later 24 rfl) 0 rfl rfl ?_
        refine J_getR (dk okX11_later 25 rfl) kfX11_39 ds_0 rfl ?_
        refine J_callVv (As := []) (dk okX11_later 26 rfl) ds_27 rfl vkX10_begin lkX11_196 rfl rfl (Nat.le_of_ble_eq_true rfl) (by decide) (con_X10_begin  ⟨rfl, ?_⟩)
        refine J_nm (fun μ8 eμ8 => ?_)
        have t := t μ8 eμ8
        refine J_aload_n (dk okX11_later 27 rfl) 0 rfl rfl ?_
        refine J_getR (dk okX11_later 28 rfl) kfX11_39 ds_0 rfl ?_
        refine J_sipush (v := 2000) (dk okX11_later 29 rfl) (by decide) ?_
        refine J_aload_n (dk okX11_later 30 rfl) 0 rfl rfl ?_
        refine J_getR (dk okX11_later 31 rfl) kfX11_16 ds_0 rfl ?_
        obtain ⟨s9, t⟩ := t
        refine J_callVi (As := []) (dk okX11_later 32 rfl) ds_8 rfl vkX1_moment lkX11_163 rfl rfl (Nat.le_of_ble_eq_true rfl) (by decide) (con_X1_moment FloorAt_8 s9 ⟨_, rfl, ?_⟩)
        refine J_iadd (dk okX11_later 33 rfl) ?_
        refine J_i2l (dk okX11_later 34 rfl) ?_
        obtain ⟨s10, t⟩ := t
        refine J_callVv (As := [.long (Int32.toInt64 (2000 + (v_X1_moment 8 μ8)))]) (dk okX11_later 35 rfl) ds_27 rfl vkX10_add lkX11_199 rfl rfl (Nat.le_of_ble_eq_true rfl) (by decide) (con_X10_add s10 ⟨rfl, ?_⟩)
        refine J_nm (fun μ11 eμ11 => ?_)
        have t := t μ11 eμ11
        refine J_bipush (v := 100) (dk okX11_later 36 rfl) (by decide) ?_
        refine J_aload_n (dk okX11_later 37 rfl) 0 rfl rfl ?_
        refine J_getR (dk okX11_later 38 rfl) kfX11_16 ds_0 rfl ?_
        refine J_getR (dk okX11_later 39 rfl) kfX11_154 ds_8 rfl ?_
        refine J_iload_n (dk okX11_later 40 rfl) 1 rfl rfl ?_
        have s12 := t
        refine J_iald (dk okX11_later 41 rfl) ds_11 s12 ?_
        refine J_iadd (dk okX11_later 42 rfl) ?_
        subst eμ11 eμ8 eμ7 eμ5
        (try simp only [if_neg h1, if_neg h2, if_pos h3] at k ⊢)
        exact J_iret (dk okX11_later 43 rfl) rfl k
      · refine J_iconst (v := (-1)) (dk okX11_later 10 rfl) (by decide) ?_
        (try simp only [if_neg h1, if_neg h2, if_neg h3] at k ⊢)
        exact J_iret (dk okX11_later 11 rfl) rfl k
/-- VotingFloor.minutes(I)I -/
noncomputable def v_X11_minutes (p0 : Int32) (μ : Mm) : Int32 := (if p0 < 0 then (-1) else (if p0 ≤ 60 then (let μ4 : Mm := (e_X3_note 1 μ); (let μ6 : Mm := (e_X1_go 1 p0 15 μ4); (let μ7 : Mm := (e_X3_commit  μ6); (let μ8 : Mm := (e_X10_begin  μ7); (let μ10 : Mm := (e_X10_add (Int32.toInt64 (v_X1_go 1 p0 15 μ4)) μ8); (let μ13 : Mm := (e_X10_add (Int32.toInt64 (v_J6_bitCount_0f7a4 (v_X1_standingOn 1 9 μ10))) μ10); (let μ16 : Mm := (e_X10_add (Int32.toInt64 (v_J6_bitCount_0f7a4 (v_X1_standingOn 1 (-9) μ13))) μ13); (2000 + (v_X1_moment 1 μ16))))))))) else (-1)))
noncomputable def e_X11_minutes (p0 : Int32) (μ : Mm) : Mm := (if p0 < 0 then μ else (if p0 ≤ 60 then (let μ4 : Mm := (e_X3_note 1 μ); (let μ6 : Mm := (e_X1_go 1 p0 15 μ4); (let μ7 : Mm := (e_X3_commit  μ6); (let μ8 : Mm := (e_X10_begin  μ7); (let μ10 : Mm := (e_X10_add (Int32.toInt64 (v_X1_go 1 p0 15 μ4)) μ8); (let μ13 : Mm := (e_X10_add (Int32.toInt64 (v_J6_bitCount_0f7a4 (v_X1_standingOn 1 9 μ10))) μ10); (let μ16 : Mm := (e_X10_add (Int32.toInt64 (v_J6_bitCount_0f7a4 (v_X1_standingOn 1 (-9) μ13))) μ13); μ16))))))) else μ))
def p_X11_minutes (p0 : Int32)  (μ : Mm) : Prop := (¬ (p0 < 0) → (p0 ≤ 60 → (p_X3_note 1 μ) ∧ (∀ μ4 : Mm, μ4 = (e_X3_note 1 μ) → (p_X1_go 1 p0 15 μ4) ∧ (∀ μ6 : Mm, μ6 = (e_X1_go 1 p0 15 μ4) → (∀ μ7 : Mm, μ7 = (e_X3_commit  μ6) → (∀ μ8 : Mm, μ8 = (e_X10_begin  μ7) → (p_X10_add (Int32.toInt64 (v_X1_go 1 p0 15 μ4)) μ8) ∧ (∀ μ10 : Mm, μ10 = (e_X10_add (Int32.toInt64 (v_X1_go 1 p0 15 μ4)) μ8) → (p_X1_standingOn 1 9 μ10) ∧ (p_X10_add (Int32.toInt64 (v_J6_bitCount_0f7a4 (v_X1_standingOn 1 9 μ10))) μ10) ∧ (∀ μ13 : Mm, μ13 = (e_X10_add (Int32.toInt64 (v_J6_bitCount_0f7a4 (v_X1_standingOn 1 9 μ10))) μ10) → (p_X1_standingOn 1 (-9) μ13) ∧ (p_X10_add (Int32.toInt64 (v_J6_bitCount_0f7a4 (v_X1_standingOn 1 (-9) μ13))) μ13) ∧ (∀ μ16 : Mm, μ16 = (e_X10_add (Int32.toInt64 (v_J6_bitCount_0f7a4 (v_X1_standingOn 1 (-9) μ13))) μ13) → p_X1_moment 1 μ16)))))))))
set_option maxRecDepth 20000 in
set_option maxHeartbeats 4000000 in
theorem con_X11_minutes {E : Ex} {Q : Option Value → Mm → Prop} {p0 : Int32} {μ : Mm} (t : p_X11_minutes p0  μ) (k : Q (some (.int (v_X11_minutes p0 μ))) (e_X11_minutes p0 μ)) : Con E 6 mX11_minutes [rf E 0, .int p0] μ Q := by
  refine Con_J (by decide +kernel) (Nat.le_of_ble_eq_true rfl) (fun G => ?_)
  unfold v_X11_minutes e_X11_minutes at k
  unfold p_X11_minutes at t
  refine J_sub (ls' := [(0, rf E 0), (1, .int p0)]) [0, 1] rfl ?_
  refine J_iload_n (dk okX11_minutes 0 rfl) 1 rfl rfl ?_
  refine J_if_lt (tgt := 10) (dk okX11_minutes 1 rfl) (by decide) (fun h1 => ?_) (fun h1 => ?_)
  · refine J_iconst (v := (-1)) (dk okX11_minutes 5 rfl) (by decide) ?_
    (try simp only [if_pos h1] at k ⊢)
    exact J_iret (dk okX11_minutes 6 rfl) rfl k
  · have t := t h1
    refine J_iload_n (dk okX11_minutes 2 rfl) 1 rfl rfl ?_
    refine J_bipush (v := 60) (dk okX11_minutes 3 rfl) (by decide) ?_
    refine J_icmp_le (tgt := 12) (dk okX11_minutes 4 rfl) (by decide) (fun h2 => ?_) (fun h2 => ?_)
    · have t := t h2
      refine J_aload_n (dk okX11_minutes 7 rfl) 0 rfl rfl ?_
      refine J_getR (dk okX11_minutes 8 rfl) kfX11_46 ds_0 rfl ?_
      refine J_aload_n (dk okX11_minutes 9 rfl) 0 rfl rfl ?_
      refine J_getR (dk okX11_minutes 10 rfl) kfX11_12 ds_0 rfl ?_
      obtain ⟨s3, t⟩ := t
      refine J_callVv (As := [rf E 1]) (dk okX11_minutes 11 rfl) ds_29 rfl vkX3_note lkX11_185 rfl rfl (Nat.le_of_ble_eq_true rfl) (by decide) (con_X3_note FloorAt_1 s3 ⟨rfl, ?_⟩)
      refine J_nm (fun μ4 eμ4 => ?_)
      have t := t μ4 eμ4
      refine J_aload_n (dk okX11_minutes 12 rfl) 0 rfl rfl ?_
      refine J_getR (dk okX11_minutes 13 rfl) kfX11_12 ds_0 rfl ?_
      refine J_iload_n (dk okX11_minutes 14 rfl) 1 rfl rfl ?_
      refine J_aload_n (dk okX11_minutes 15 rfl) 0 rfl rfl ?_
      refine J_getR (dk okX11_minutes 16 rfl) kfX11_22 ds_0 rfl ?_
      obtain ⟨s5, t⟩ := t
      refine J_callVi (As := [.int p0, rf E 15]) (dk okX11_minutes 17 rfl) ds_1 rfl vkX1_go lkX11_189 rfl rfl (Nat.le_of_ble_eq_true rfl) (by decide) (con_X1_go FloorAt_1 RuleAt_15 s5 ⟨_, rfl, ?_⟩)
      refine J_nm (fun μ6 eμ6 => ?_)
      have t := t μ6 eμ6
      refine J_istore_n (ls' := [(2, _), (0, _), (1, _)]) (dk okX11_minutes 18 rfl) rfl (by decide) rfl ?_
      refine J_aload_n (dk okX11_minutes 19 rfl) 1 rfl rfl ?_
      refine J_getR (dk okX11_minutes 20 rfl) kfX11_46 ds_0 rfl ?_
      refine J_callVv (As := []) (dk okX11_minutes 21 rfl) ds_29 rfl vkX3_commit lkX11_193 rfl rfl (Nat.le_of_ble_eq_true rfl) (by decide) (con_X3_commit  ⟨rfl, ?_⟩)
      refine J_nm (fun μ7 eμ7 => ?_)
      have t := t μ7 eμ7
      refine J_aload_n (dk okX11_minutes 22 rfl) 1 rfl rfl ?_
      refine J_getR (dk okX11_minutes 23 rfl) kfX11_39 ds_0 rfl ?_
      refine J_callVv (As := []) (dk okX11_minutes 24 rfl) ds_27 rfl vkX10_begin lkX11_196 rfl rfl (Nat.le_of_ble_eq_true rfl) (by decide) (con_X10_begin  ⟨rfl, ?_⟩)
      refine J_nm (fun μ8 eμ8 => ?_)
      have t := t μ8 eμ8
      refine J_aload_n (dk okX11_minutes 25 rfl) 1 rfl rfl ?_
      refine J_getR (dk okX11_minutes 26 rfl) kfX11_39 ds_0 rfl ?_
      refine J_iload_n (dk okX11_minutes 27 rfl) 0 rfl rfl ?_
      refine J_i2l (dk okX11_minutes 28 rfl) ?_
      obtain ⟨s9, t⟩ := t
      refine J_callVv (As := [.long (Int32.toInt64 (v_X1_go 1 p0 15 μ4))]) (dk okX11_minutes 29 rfl) ds_27 rfl vkX10_add lkX11_199 rfl rfl (Nat.le_of_ble_eq_true rfl) (by decide) (con_X10_add s9 ⟨rfl, ?_⟩)
      refine J_nm (fun μ10 eμ10 => ?_)
      have t := t μ10 eμ10
      refine J_aload_n (dk okX11_minutes 30 rfl) 1 rfl rfl ?_
      refine J_getR (dk okX11_minutes 31 rfl) kfX11_39 ds_0 rfl ?_
      refine J_aload_n (dk okX11_minutes 32 rfl) 1 rfl rfl ?_
      refine J_getR (dk okX11_minutes 33 rfl) kfX11_12 ds_0 rfl ?_
      refine J_bipush (v := 9) (dk okX11_minutes 34 rfl) (by decide) ?_
      obtain ⟨s11, t⟩ := t
      refine J_callVi (As := [.int 9]) (dk okX11_minutes 35 rfl) ds_1 rfl vkX1_standingOn lkX11_203 rfl rfl (Nat.le_of_ble_eq_true rfl) (by decide) (con_X1_standingOn FloorAt_1 s11 ⟨_, rfl, ?_⟩)
      refine J_callSi (As := [.int (v_X1_standingOn 1 9 μ10)]) (dk okX11_minutes 36 rfl) skJ6_bitCount_0f7a4 lkX11_206 rfl rfl (Nat.le_of_ble_eq_true rfl) (by decide) (con_J6_bitCount_0f7a4  ⟨_, rfl, ?_⟩)
      refine J_i2l (dk okX11_minutes 37 rfl) ?_
      obtain ⟨s12, t⟩ := t
      refine J_callVv (As := [.long (Int32.toInt64 (v_J6_bitCount_0f7a4 (v_X1_standingOn 1 9 μ10)))]) (dk okX11_minutes 38 rfl) ds_27 rfl vkX10_add lkX11_199 rfl rfl (Nat.le_of_ble_eq_true rfl) (by decide) (con_X10_add s12 ⟨rfl, ?_⟩)
      refine J_nm (fun μ13 eμ13 => ?_)
      have t := t μ13 eμ13
      refine J_aload_n (dk okX11_minutes 39 rfl) 1 rfl rfl ?_
      refine J_getR (dk okX11_minutes 40 rfl) kfX11_39 ds_0 rfl ?_
      refine J_aload_n (dk okX11_minutes 41 rfl) 1 rfl rfl ?_
      refine J_getR (dk okX11_minutes 42 rfl) kfX11_12 ds_0 rfl ?_
      refine J_bipush (v := (-9)) (dk okX11_minutes 43 rfl) (by decide) ?_
      obtain ⟨s14, t⟩ := t
      refine J_callVi (As := [.int (-9)]) (dk okX11_minutes 44 rfl) ds_1 rfl vkX1_standingOn lkX11_203 rfl rfl (Nat.le_of_ble_eq_true rfl) (by decide) (con_X1_standingOn FloorAt_1 s14 ⟨_, rfl, ?_⟩)
      refine J_callSi (As := [.int (v_X1_standingOn 1 (-9) μ13)]) (dk okX11_minutes 45 rfl) skJ6_bitCount_0f7a4 lkX11_206 rfl rfl (Nat.le_of_ble_eq_true rfl) (by decide) (con_J6_bitCount_0f7a4  ⟨_, rfl, ?_⟩)
      refine J_i2l (dk okX11_minutes 46 rfl) ?_
      obtain ⟨s15, t⟩ := t
      refine J_callVv (As := [.long (Int32.toInt64 (v_J6_bitCount_0f7a4 (v_X1_standingOn 1 (-9) μ13)))]) (dk okX11_minutes 47 rfl) ds_27 rfl vkX10_add lkX11_199 rfl rfl (Nat.le_of_ble_eq_true rfl) (by decide) (con_X10_add s15 ⟨rfl, ?_⟩)
      refine J_nm (fun μ16 eμ16 => ?_)
      have t := t μ16 eμ16
      refine J_sipush (v := 2000) (dk okX11_minutes 48 rfl) (by decide) ?_
      refine J_aload_n (dk okX11_minutes 49 rfl) 1 rfl rfl ?_
      refine J_getR (dk okX11_minutes 50 rfl) kfX11_12 ds_0 rfl ?_
      have s17 := t
      refine J_callVi (As := []) (dk okX11_minutes 51 rfl) ds_1 rfl vkX1_moment lkX11_163 rfl rfl (Nat.le_of_ble_eq_true rfl) (by decide) (con_X1_moment FloorAt_1 s17 ⟨_, rfl, ?_⟩)
      refine J_iadd (dk okX11_minutes 52 rfl) ?_
      subst eμ16 eμ13 eμ10 eμ8 eμ7 eμ6 eμ4
      (try simp only [if_neg h1, if_pos h2] at k ⊢)
      exact J_iret (dk okX11_minutes 53 rfl) rfl k
    · refine J_iconst (v := (-1)) (dk okX11_minutes 5 rfl) (by decide) ?_
      (try simp only [if_neg h1, if_neg h2] at k ⊢)
      exact J_iret (dk okX11_minutes 6 rfl) rfl k
noncomputable def bd_X11_spares_7  (x1 : Int32) (x2 : Int32) (x3 : Int32) (μ : Mm) : (Int32 × Int32 × Int32 × Mm) ⊕ (Int32 × Int32 × Mm) := (if (μ.1 1 0) ≤ x3 then .inr (x1, x2, μ) else (let μ10 : Mm := (if (v_X1_isOff 1 x3 μ) = 0 then ((e_X1_goTillNoon 8 15 ((e_X1_stepOffOrOn 8 x3 ((e_X1_become 8 1 μ)))))) else μ : Mm); .inl ((if (v_X1_isOff 1 x3 μ) = 0 then (if x1 = (-2) then x3 else (if (v_X1_goTillNoon 8 15 ((e_X1_stepOffOrOn 8 x3 ((e_X1_become 8 1 μ))))) ≤ x2 then x1 else x3 : Int32) : Int32) else x1 : Int32), (if (v_X1_isOff 1 x3 μ) = 0 then (if x1 = (-2) then (v_X1_goTillNoon 8 15 ((e_X1_stepOffOrOn 8 x3 ((e_X1_become 8 1 μ))))) else (if (v_X1_goTillNoon 8 15 ((e_X1_stepOffOrOn 8 x3 ((e_X1_become 8 1 μ))))) ≤ x2 then x2 else (v_X1_goTillNoon 8 15 ((e_X1_stepOffOrOn 8 x3 ((e_X1_become 8 1 μ))))) : Int32) : Int32) else x2 : Int32), (x3 + 1), μ10)))
def sd_X11_spares_7   (x1 : Int32) (x2 : Int32) (x3 : Int32) (μ : Mm) : Prop := (¬ ((μ.1 1 0) ≤ x3) → ((v_X1_isOff 1 x3 μ) = 0 → (p_X1_become 8 1 μ) ∧ (∀ μ4 : Mm, μ4 = (e_X1_become 8 1 μ) → (∀ μ5 : Mm, μ5 = (e_X1_stepOffOrOn 8 x3 μ4) → p_X1_goTillNoon 8 15 μ5))))
set_option maxRecDepth 20000 in
set_option maxHeartbeats 4000000 in
theorem lw_X11_spares_7 {E : Ex} {G : Gx} {Q : Option Value → Mm → Prop} {x1 : Int32} {x2 : Int32} {x3 : Int32} {μ : Mm}  (p : whP (fun s : Int32 × Int32 × Int32 × Mm => bd_X11_spares_7  s.1 s.2.1 s.2.2.1 s.2.2.2) (fun s : Int32 × Int32 × Int32 × Mm => sd_X11_spares_7   s.1 s.2.1 s.2.2.1 s.2.2.2) FU (x1, x2, x3, μ)) (k : ∀ r : Int32 × Int32 × Mm, r = whl (fun s : Int32 × Int32 × Int32 × Mm => bd_X11_spares_7  s.1 s.2.1 s.2.2.1 s.2.2.2) (fun s : Int32 × Int32 × Int32 × Mm => (0, 0, s.2.2.2)) FU (x1, x2, x3, μ) → J E G 6 mX11_spares Q 85 [(0, rf E 0), (1, .int (r.1)), (2, .int (r.2.1))] [] (r.2.2)) : J E G 6 mX11_spares Q 7 [(0, rf E 0), (1, .int x1), (2, .int x2), (3, .int x3)] [] μ := by
  refine J_whl (f := (fun s : Int32 × Int32 × Int32 × Mm => bd_X11_spares_7  s.1 s.2.1 s.2.2.1 s.2.2.2)) (dd := (fun s : Int32 × Int32 × Int32 × Mm => (0, 0, s.2.2.2))) (sd := (fun s : Int32 × Int32 × Int32 × Mm => sd_X11_spares_7   s.1 s.2.1 s.2.2.1 s.2.2.2)) (P := fun s : Int32 × Int32 × Int32 × Mm => J E G 6 mX11_spares Q 7 [(0, rf E 0), (1, .int (s.1)), (2, .int (s.2.1)), (3, .int (s.2.2.1))] [] (s.2.2.2)) (R := fun r : Int32 × Int32 × Mm => J E G 6 mX11_spares Q 85 [(0, rf E 0), (1, .int (r.1)), (2, .int (r.2.1))] [] (r.2.2)) ?_ FU (x1, x2, x3, μ) p (k _ rfl)
  clear p k
  rintro ⟨x1, x2, x3, μ⟩ t k1 k2
  dsimp only [sd_X11_spares_7] at t
  have kb : ∀ (y1 : Int32) (y2 : Int32) (y3 : Int32) (μ9 : Mm), bd_X11_spares_7  x1 x2 x3 μ = .inl (y1, y2, y3, μ9) → J E G 6 mX11_spares Q 7 [(0, rf E 0), (1, .int y1), (2, .int y2), (3, .int y3)] [] μ9 := fun y1 y2 y3 μ9 h => k1 (y1, y2, y3, μ9) h
  have kx : ∀ (y1 : Int32) (y2 : Int32) (μ9 : Mm), bd_X11_spares_7  x1 x2 x3 μ = .inr (y1, y2, μ9) → J E G 6 mX11_spares Q 85 [(0, rf E 0), (1, .int y1), (2, .int y2)] [] μ9 := fun y1 y2 μ9 h => k2 (y1, y2, μ9) h
  clear k1 k2
  refine J_iload_n (dk okX11_spares 6 rfl) 3 rfl rfl ?_
  refine J_aload_n (dk okX11_spares 7 rfl) 0 rfl rfl ?_
  refine J_getR (dk okX11_spares 8 rfl) kfX11_12 ds_0 rfl ?_
  refine J_getI (dk okX11_spares 9 rfl) kfX11_106 ds_1 rfl ?_
  refine J_icmp_ge (tgt := 85) (dk okX11_spares 10 rfl) (by decide) (fun h1 => ?_) (fun h1 => ?_)
  · exact J_sub [0, 1, 2] rfl (kx x1 x2 μ (by unfold bd_X11_spares_7; first | (simp only [if_pos h1]; done) | (simp only [if_pos h1]; rfl) | rfl))
  · have t := t h1
    refine J_aload_n (dk okX11_spares 11 rfl) 0 rfl rfl ?_
    refine J_getR (dk okX11_spares 12 rfl) kfX11_12 ds_0 rfl ?_
    refine J_iload_n (dk okX11_spares 13 rfl) 3 rfl rfl ?_
    refine J_callVi (As := [.int x3]) (dk okX11_spares 14 rfl) ds_1 rfl vkX1_isOff lkX11_160 rfl rfl (Nat.le_of_ble_eq_true rfl) (by decide) (con_X1_isOff FloorAt_1 ⟨_, rfl, ?_⟩)
    have K11 : J E G 6 mX11_spares Q 79 [(0, rf E 0), (1, .int (if (v_X1_isOff 1 x3 μ) = 0 then (if x1 = (-2) then x3 else (if (v_X1_goTillNoon 8 15 ((e_X1_stepOffOrOn 8 x3 ((e_X1_become 8 1 μ))))) ≤ x2 then x1 else x3 : Int32) : Int32) else x1 : Int32)), (2, .int (if (v_X1_isOff 1 x3 μ) = 0 then (if x1 = (-2) then (v_X1_goTillNoon 8 15 ((e_X1_stepOffOrOn 8 x3 ((e_X1_become 8 1 μ))))) else (if (v_X1_goTillNoon 8 15 ((e_X1_stepOffOrOn 8 x3 ((e_X1_become 8 1 μ))))) ≤ x2 then x2 else (v_X1_goTillNoon 8 15 ((e_X1_stepOffOrOn 8 x3 ((e_X1_become 8 1 μ))))) : Int32) : Int32) else x2 : Int32)), (3, .int x3)] [] (if (v_X1_isOff 1 x3 μ) = 0 then ((e_X1_goTillNoon 8 15 ((e_X1_stepOffOrOn 8 x3 ((e_X1_become 8 1 μ)))))) else μ : Mm) := by
      refine J_nm (fun μ10 eμ10 => ?_)
      refine J_iinc (v := (x3 + 1)) (ls' := [(3, _), (0, _), (1, _), (2, _)]) (dk okX11_spares 42 rfl) 3 rfl rfl (by decide) rfl ?_
      refine J_goto (tgt := 7) (dk okX11_spares 43 rfl) (by decide) ?_
      exact J_sub [1, 2, 3, 0] rfl (kb (if (v_X1_isOff 1 x3 μ) = 0 then (if x1 = (-2) then x3 else (if (v_X1_goTillNoon 8 15 ((e_X1_stepOffOrOn 8 x3 ((e_X1_become 8 1 μ))))) ≤ x2 then x1 else x3 : Int32) : Int32) else x1 : Int32) (if (v_X1_isOff 1 x3 μ) = 0 then (if x1 = (-2) then (v_X1_goTillNoon 8 15 ((e_X1_stepOffOrOn 8 x3 ((e_X1_become 8 1 μ))))) else (if (v_X1_goTillNoon 8 15 ((e_X1_stepOffOrOn 8 x3 ((e_X1_become 8 1 μ))))) ≤ x2 then x2 else (v_X1_goTillNoon 8 15 ((e_X1_stepOffOrOn 8 x3 ((e_X1_become 8 1 μ))))) : Int32) : Int32) else x2 : Int32) (x3 + 1) μ10 (by subst eμ10; unfold bd_X11_spares_7; first | (simp only [if_neg h1]; done) | (simp only [if_neg h1]; rfl) | rfl))
    refine J_if_ne (tgt := 79) (dk okX11_spares 15 rfl) (by decide) (fun h2 => ?_) (fun h2 => ?_)
    · refine J_sub (ls' := [(0, _), (1, _), (2, _), (3, _)]) [0, 1, 2, 3] rfl ?_
      (try simp only [if_neg h2] at K11 ⊢); exact K11
    · have t := t h2
      refine J_aload_n (dk okX11_spares 16 rfl) 0 rfl rfl ?_
      refine J_getR (dk okX11_spares 17 rfl) kfX11_16 ds_0 rfl ?_
      refine J_aload_n (dk okX11_spares 18 rfl) 0 rfl rfl ?_
      refine J_getR (dk okX11_spares 19 rfl) kfX11_12 ds_0 rfl ?_
      obtain ⟨s3, t⟩ := t
      refine J_callVv (As := [rf E 1]) (dk okX11_spares 20 rfl) ds_8 rfl vkX1_become lkX11_259 rfl rfl (Nat.le_of_ble_eq_true rfl) (by decide) (con_X1_become FloorAt_8 FloorAt_1 s3 ⟨rfl, ?_⟩)
      refine J_nm (fun μ4 eμ4 => ?_)
      have t := t μ4 eμ4
      refine J_aload_n (dk okX11_spares 21 rfl) 0 rfl rfl ?_
      refine J_getR (dk okX11_spares 22 rfl) kfX11_16 ds_0 rfl ?_
      refine J_iload_n (dk okX11_spares 23 rfl) 3 rfl rfl ?_
      refine J_callVi (As := [.int x3]) (dk okX11_spares 24 rfl) ds_8 rfl vkX1_stepOffOrOn lkX11_220 rfl rfl (Nat.le_of_ble_eq_true rfl) (by decide) (con_X1_stepOffOrOn FloorAt_8 ⟨_, rfl, ?_⟩)
      refine J_nm (fun μ5 eμ5 => ?_)
      have t := t μ5 eμ5
      refine J_pop (dk okX11_spares 25 rfl) rfl ?_
      refine J_aload_n (dk okX11_spares 26 rfl) 0 rfl rfl ?_
      refine J_getR (dk okX11_spares 27 rfl) kfX11_16 ds_0 rfl ?_
      refine J_aload_n (dk okX11_spares 28 rfl) 0 rfl rfl ?_
      refine J_getR (dk okX11_spares 29 rfl) kfX11_22 ds_0 rfl ?_
      have s6 := t
      refine J_callVi (As := [rf E 15]) (dk okX11_spares 30 rfl) ds_8 rfl vkX1_goTillNoon lkX11_261 rfl rfl (Nat.le_of_ble_eq_true rfl) (by decide) (con_X1_goTillNoon FloorAt_8 RuleAt_15 s6 ⟨_, rfl, ?_⟩)
      refine J_nm (fun μ7 eμ7 => ?_)
      refine J_istore (ls' := [(4, _), (0, _), (1, _), (2, _), (3, _)]) (dk okX11_spares 31 rfl) (by decide) rfl ?_
      refine J_iload_n (dk okX11_spares 32 rfl) 2 rfl rfl ?_
      refine J_bipush (v := (-2)) (dk okX11_spares 33 rfl) (by decide) ?_
      refine J_icmp_eq (tgt := 74) (dk okX11_spares 34 rfl) (by decide) (fun h8 => ?_) (fun h8 => ?_)
      · refine J_iload_n (dk okX11_spares 38 rfl) 4 rfl rfl ?_
        refine J_istore_n (ls' := [(1, _), (4, _), (0, _), (2, _), (3, _)]) (dk okX11_spares 39 rfl) rfl (by decide) rfl ?_
        refine J_iload (dk okX11_spares 40 rfl) 1 rfl ?_
        refine J_istore_n (ls' := [(2, _), (1, _), (4, _), (0, _), (3, _)]) (dk okX11_spares 41 rfl) rfl (by decide) rfl ?_
        subst eμ7 eμ5 eμ4
        refine J_sub (ls' := [(0, _), (1, _), (2, _), (3, _)]) [3, 1, 0, 4] rfl ?_
        (try simp only [if_pos h2, if_pos h8] at K11 ⊢); exact K11
      · refine J_iload (dk okX11_spares 35 rfl) 0 rfl ?_
        refine J_iload_n (dk okX11_spares 36 rfl) 3 rfl rfl ?_
        refine J_icmp_le (tgt := 79) (dk okX11_spares 37 rfl) (by decide) (fun h9 => ?_) (fun h9 => ?_)
        · subst eμ7 eμ5 eμ4
          refine J_sub (ls' := [(0, _), (1, _), (2, _), (3, _)]) [1, 2, 3, 4] rfl ?_
          (try simp only [if_pos h2, if_neg h8, if_pos h9] at K11 ⊢); exact K11
        · refine J_iload_n (dk okX11_spares 38 rfl) 4 rfl rfl ?_
          refine J_istore_n (ls' := [(1, _), (4, _), (0, _), (2, _), (3, _)]) (dk okX11_spares 39 rfl) rfl (by decide) rfl ?_
          refine J_iload (dk okX11_spares 40 rfl) 1 rfl ?_
          refine J_istore_n (ls' := [(2, _), (1, _), (4, _), (0, _), (3, _)]) (dk okX11_spares 41 rfl) rfl (by decide) rfl ?_
          subst eμ7 eμ5 eμ4
          refine J_sub (ls' := [(0, _), (1, _), (2, _), (3, _)]) [3, 1, 0, 4] rfl ?_
          (try simp only [if_pos h2, if_neg h8, if_neg h9] at K11 ⊢); exact K11
/-- VotingFloor.spares()I -/
noncomputable def v_X11_spares  (μ : Mm) : Int32 := (let r2 : Int32 × Int32 × Mm := whl (fun s : Int32 × Int32 × Int32 × Mm => bd_X11_spares_7  s.1 s.2.1 s.2.2.1 s.2.2.2) (fun s : Int32 × Int32 × Int32 × Mm => (0, 0, s.2.2.2)) FU ((-2), 0, 0, μ); (r2.1))
noncomputable def e_X11_spares  (μ : Mm) : Mm := (let r2 : Int32 × Int32 × Mm := whl (fun s : Int32 × Int32 × Int32 × Mm => bd_X11_spares_7  s.1 s.2.1 s.2.2.1 s.2.2.2) (fun s : Int32 × Int32 × Int32 × Mm => (0, 0, s.2.2.2)) FU ((-2), 0, 0, μ); (let μ13 : Mm := (if (r2.1) = (-2) then (r2.2.2) else ((e_X10_add (Int32.toInt64 (2000 + (v_X1_goTillNoon 8 15 ((e_X10_add (Int32.toInt64 (2000 + (r2.2.1))) ((e_X10_begin  ((e_X1_become 8 1 (r2.2.2)))))))))) ((e_X1_goTillNoon 8 15 ((e_X10_add (Int32.toInt64 (2000 + (r2.2.1))) ((e_X10_begin  ((e_X1_become 8 1 (r2.2.2))))))))))) : Mm); μ13))
def p_X11_spares   (μ : Mm) : Prop := (whP (fun s : Int32 × Int32 × Int32 × Mm => bd_X11_spares_7  s.1 s.2.1 s.2.2.1 s.2.2.2) (fun s : Int32 × Int32 × Int32 × Mm => sd_X11_spares_7   s.1 s.2.1 s.2.2.1 s.2.2.2) FU ((-2), 0, 0, μ)) ∧ (∀ r2 : Int32 × Int32 × Mm, r2 = whl (fun s : Int32 × Int32 × Int32 × Mm => bd_X11_spares_7  s.1 s.2.1 s.2.2.1 s.2.2.2) (fun s : Int32 × Int32 × Int32 × Mm => (0, 0, s.2.2.2)) FU ((-2), 0, 0, μ) → (¬ ((r2.1) = (-2)) → (p_X1_become 8 1 (r2.2.2)) ∧ (∀ μ5 : Mm, μ5 = (e_X1_become 8 1 (r2.2.2)) → (∀ μ6 : Mm, μ6 = (e_X10_begin  μ5) → (p_X10_add (Int32.toInt64 (2000 + (r2.2.1))) μ6) ∧ (∀ μ8 : Mm, μ8 = (e_X10_add (Int32.toInt64 (2000 + (r2.2.1))) μ6) → (p_X1_goTillNoon 8 15 μ8) ∧ (∀ μ10 : Mm, μ10 = (e_X1_goTillNoon 8 15 μ8) → p_X10_add (Int32.toInt64 (2000 + (v_X1_goTillNoon 8 15 μ8))) μ10))))))
set_option maxRecDepth 20000 in
set_option maxHeartbeats 4000000 in
theorem con_X11_spares {E : Ex} {Q : Option Value → Mm → Prop} {μ : Mm} (t : p_X11_spares   μ) (k : Q (some (.int (v_X11_spares  μ))) (e_X11_spares  μ)) : Con E 6 mX11_spares [rf E 0] μ Q := by
  refine Con_J (by decide +kernel) (Nat.le_of_ble_eq_true rfl) (fun G => ?_)
  unfold v_X11_spares e_X11_spares at k
  unfold p_X11_spares at t
  refine J_sub (ls' := [(0, rf E 0)]) [0] rfl ?_
  refine J_bipush (v := (-2)) (dk okX11_spares 0 rfl) (by decide) ?_
  refine J_istore_n (ls' := [(1, _), (0, _)]) (dk okX11_spares 1 rfl) rfl (by decide) rfl ?_
  refine J_iconst (v := 0) (dk okX11_spares 2 rfl) (by decide) ?_
  refine J_istore_n (ls' := [(2, _), (1, _), (0, _)]) (dk okX11_spares 3 rfl) rfl (by decide) rfl ?_
  refine J_iconst (v := 0) (dk okX11_spares 4 rfl) (by decide) ?_
  refine J_istore_n (ls' := [(3, _), (2, _), (1, _), (0, _)]) (dk okX11_spares 5 rfl) rfl (by decide) rfl ?_
  obtain ⟨s1, t⟩ := t
  refine J_sub (ls' := [(0, _), (1, _), (2, _), (3, _)]) [3, 2, 1, 0] rfl ?_
  refine lw_X11_spares_7  s1 (fun r2 er2 => ?_)
  have t := t r2 er2
  refine J_iload_n (dk okX11_spares 44 rfl) 1 rfl rfl ?_
  refine J_bipush (v := (-2)) (dk okX11_spares 45 rfl) (by decide) ?_
  have K14 : J E G 6 mX11_spares Q 145 [(1, .int (r2.1))] [] (if (r2.1) = (-2) then (r2.2.2) else ((e_X10_add (Int32.toInt64 (2000 + (v_X1_goTillNoon 8 15 ((e_X10_add (Int32.toInt64 (2000 + (r2.2.1))) ((e_X10_begin  ((e_X1_become 8 1 (r2.2.2)))))))))) ((e_X1_goTillNoon 8 15 ((e_X10_add (Int32.toInt64 (2000 + (r2.2.1))) ((e_X10_begin  ((e_X1_become 8 1 (r2.2.2))))))))))) : Mm) := by
    refine J_nm (fun μ13 eμ13 => ?_)
    refine J_iload_n (dk okX11_spares 73 rfl) 0 rfl rfl ?_
    subst eμ13 er2
    exact J_iret (dk okX11_spares 74 rfl) rfl k
  refine J_icmp_eq (tgt := 145) (dk okX11_spares 46 rfl) (by decide) (fun h3 => ?_) (fun h3 => ?_)
  · refine J_sub (ls' := [(1, _)]) [1] rfl ?_
    (try simp only [if_pos h3] at K14 ⊢); exact K14
  · have t := t h3
    refine J_aload_n (dk okX11_spares 47 rfl) 0 rfl rfl ?_
    refine J_getR (dk okX11_spares 48 rfl) kfX11_16 ds_0 rfl ?_
    refine J_aload_n (dk okX11_spares 49 rfl) 0 rfl rfl ?_
    refine J_getR (dk okX11_spares 50 rfl) kfX11_12 ds_0 rfl ?_
    obtain ⟨s4, t⟩ := t
    refine J_callVv (As := [rf E 1]) (dk okX11_spares 51 rfl) ds_8 rfl vkX1_become lkX11_259 rfl rfl (Nat.le_of_ble_eq_true rfl) (by decide) (con_X1_become FloorAt_8 FloorAt_1 s4 ⟨rfl, ?_⟩)
    refine J_nm (fun μ5 eμ5 => ?_)
    have t := t μ5 eμ5
    refine J_aload_n (dk okX11_spares 52 rfl) 0 rfl rfl ?_
    refine J_getR (dk okX11_spares 53 rfl) kfX11_39 ds_0 rfl ?_
    refine J_callVv (As := []) (dk okX11_spares 54 rfl) ds_27 rfl vkX10_begin lkX11_196 rfl rfl (Nat.le_of_ble_eq_true rfl) (by decide) (con_X10_begin  ⟨rfl, ?_⟩)
    refine J_nm (fun μ6 eμ6 => ?_)
    have t := t μ6 eμ6
    refine J_aload_n (dk okX11_spares 55 rfl) 0 rfl rfl ?_
    refine J_getR (dk okX11_spares 56 rfl) kfX11_39 ds_0 rfl ?_
    refine J_sipush (v := 2000) (dk okX11_spares 57 rfl) (by decide) ?_
    refine J_iload_n (dk okX11_spares 58 rfl) 2 rfl rfl ?_
    refine J_iadd (dk okX11_spares 59 rfl) ?_
    refine J_i2l (dk okX11_spares 60 rfl) ?_
    obtain ⟨s7, t⟩ := t
    refine J_callVv (As := [.long (Int32.toInt64 (2000 + (r2.2.1)))]) (dk okX11_spares 61 rfl) ds_27 rfl vkX10_add lkX11_199 rfl rfl (Nat.le_of_ble_eq_true rfl) (by decide) (con_X10_add s7 ⟨rfl, ?_⟩)
    refine J_nm (fun μ8 eμ8 => ?_)
    have t := t μ8 eμ8
    refine J_aload_n (dk okX11_spares 62 rfl) 0 rfl rfl ?_
    refine J_getR (dk okX11_spares 63 rfl) kfX11_39 ds_0 rfl ?_
    refine J_sipush (v := 2000) (dk okX11_spares 64 rfl) (by decide) ?_
    refine J_aload_n (dk okX11_spares 65 rfl) 0 rfl rfl ?_
    refine J_getR (dk okX11_spares 66 rfl) kfX11_16 ds_0 rfl ?_
    refine J_aload_n (dk okX11_spares 67 rfl) 0 rfl rfl ?_
    refine J_getR (dk okX11_spares 68 rfl) kfX11_22 ds_0 rfl ?_
    obtain ⟨s9, t⟩ := t
    refine J_callVi (As := [rf E 15]) (dk okX11_spares 69 rfl) ds_8 rfl vkX1_goTillNoon lkX11_261 rfl rfl (Nat.le_of_ble_eq_true rfl) (by decide) (con_X1_goTillNoon FloorAt_8 RuleAt_15 s9 ⟨_, rfl, ?_⟩)
    refine J_nm (fun μ10 eμ10 => ?_)
    have t := t μ10 eμ10
    refine J_iadd (dk okX11_spares 70 rfl) ?_
    refine J_i2l (dk okX11_spares 71 rfl) ?_
    have s11 := t
    refine J_callVv (As := [.long (Int32.toInt64 (2000 + (v_X1_goTillNoon 8 15 μ8)))]) (dk okX11_spares 72 rfl) ds_27 rfl vkX10_add lkX11_199 rfl rfl (Nat.le_of_ble_eq_true rfl) (by decide) (con_X10_add s11 ⟨rfl, ?_⟩)
    refine J_nm (fun μ12 eμ12 => ?_)
    subst eμ12 eμ10 eμ8 eμ6 eμ5
    refine J_sub (ls' := [(1, _)]) [1] rfl ?_
    (try simp only [if_neg h3] at K14 ⊢); exact K14
noncomputable def bd_X11_years_37  (x2 : Int32) (x3 : Int32) (x4 : Int32) (μ : Mm) : (Int32 × Int32 × Int32 × Mm) ⊕ (Int32 × Mm) := (if x2 ≤ x4 then .inr (x3, μ) else (let μ3 : Mm := (e_X11_drawYear  μ); .inl (x2, (x3 + (if (v_X1_moment 8 μ3) ≤ 0 then 0 else 1 : Int32)), (x4 + 1), μ3)))
def sd_X11_years_37   (x2 : Int32) (x3 : Int32) (x4 : Int32) (μ : Mm) : Prop := (¬ (x2 ≤ x4) → (p_X11_drawYear μ) ∧ (∀ μ3 : Mm, μ3 = (e_X11_drawYear  μ) → p_X1_moment 8 μ3))
set_option maxRecDepth 20000 in
set_option maxHeartbeats 4000000 in
theorem lw_X11_years_37 {E : Ex} {G : Gx} {Q : Option Value → Mm → Prop} {x2 : Int32} {x3 : Int32} {x4 : Int32} {μ : Mm}  (p : whP (fun s : Int32 × Int32 × Int32 × Mm => bd_X11_years_37  s.1 s.2.1 s.2.2.1 s.2.2.2) (fun s : Int32 × Int32 × Int32 × Mm => sd_X11_years_37   s.1 s.2.1 s.2.2.1 s.2.2.2) FU (x2, x3, x4, μ)) (k : ∀ r : Int32 × Mm, r = whl (fun s : Int32 × Int32 × Int32 × Mm => bd_X11_years_37  s.1 s.2.1 s.2.2.1 s.2.2.2) (fun s : Int32 × Int32 × Int32 × Mm => (0, s.2.2.2)) FU (x2, x3, x4, μ) → J E G 6 mX11_years Q 71 [(0, rf E 0), (3, .int (r.1))] [] (r.2)) : J E G 6 mX11_years Q 37 [(0, rf E 0), (2, .int x2), (3, .int x3), (4, .int x4)] [] μ := by
  refine J_whl (f := (fun s : Int32 × Int32 × Int32 × Mm => bd_X11_years_37  s.1 s.2.1 s.2.2.1 s.2.2.2)) (dd := (fun s : Int32 × Int32 × Int32 × Mm => (0, s.2.2.2))) (sd := (fun s : Int32 × Int32 × Int32 × Mm => sd_X11_years_37   s.1 s.2.1 s.2.2.1 s.2.2.2)) (P := fun s : Int32 × Int32 × Int32 × Mm => J E G 6 mX11_years Q 37 [(0, rf E 0), (2, .int (s.1)), (3, .int (s.2.1)), (4, .int (s.2.2.1))] [] (s.2.2.2)) (R := fun r : Int32 × Mm => J E G 6 mX11_years Q 71 [(0, rf E 0), (3, .int (r.1))] [] (r.2)) ?_ FU (x2, x3, x4, μ) p (k _ rfl)
  clear p k
  rintro ⟨x2, x3, x4, μ⟩ t k1 k2
  dsimp only [sd_X11_years_37] at t
  have kb : ∀ (y2 : Int32) (y3 : Int32) (y4 : Int32) (μ9 : Mm), bd_X11_years_37  x2 x3 x4 μ = .inl (y2, y3, y4, μ9) → J E G 6 mX11_years Q 37 [(0, rf E 0), (2, .int y2), (3, .int y3), (4, .int y4)] [] μ9 := fun y2 y3 y4 μ9 h => k1 (y2, y3, y4, μ9) h
  have kx : ∀ (y3 : Int32) (μ9 : Mm), bd_X11_years_37  x2 x3 x4 μ = .inr (y3, μ9) → J E G 6 mX11_years Q 71 [(0, rf E 0), (3, .int y3)] [] μ9 := fun y3 μ9 h => k2 (y3, μ9) h
  clear k1 k2
  refine J_iload (dk okX11_years 21 rfl) 3 rfl ?_
  refine J_iload_n (dk okX11_years 22 rfl) 1 rfl rfl ?_
  refine J_icmp_ge (tgt := 71) (dk okX11_years 23 rfl) (by decide) (fun h1 => ?_) (fun h1 => ?_)
  · exact J_sub [0, 2] rfl (kx x3 μ (by unfold bd_X11_years_37; first | (simp only [if_pos h1]; done) | (simp only [if_pos h1]; rfl) | rfl))
  · have t := t h1
    refine J_aload_n (dk okX11_years 24 rfl) 0 rfl rfl ?_
    obtain ⟨s2, t⟩ := t
    refine J_callVv (As := []) (dk okX11_years 25 rfl) ds_0 rfl vkX11_drawYear lkX11_388 rfl rfl (Nat.le_of_ble_eq_true rfl) (by decide) (con_X11_drawYear s2 ⟨rfl, ?_⟩)
    refine J_nm (fun μ3 eμ3 => ?_)
    have t := t μ3 eμ3
    refine J_iload_n (dk okX11_years 26 rfl) 2 rfl rfl ?_
    refine J_aload_n (dk okX11_years 27 rfl) 0 rfl rfl ?_
    refine J_getR (dk okX11_years 28 rfl) kfX11_16 ds_0 rfl ?_
    have s4 := t
    refine J_callVi (As := []) (dk okX11_years 29 rfl) ds_8 rfl vkX1_moment lkX11_163 rfl rfl (Nat.le_of_ble_eq_true rfl) (by decide) (con_X1_moment FloorAt_8 s4 ⟨_, rfl, ?_⟩)
    have K6 : J E G 6 mX11_years Q 63 [(0, rf E 0), (2, .int x2), (4, .int x4)] [.int (if (v_X1_moment 8 μ3) ≤ 0 then 0 else 1 : Int32), .int x3] μ3 := by
      refine J_iadd (dk okX11_years 34 rfl) ?_
      refine J_istore_n (ls' := [(3, _), (0, _), (2, _), (4, _)]) (dk okX11_years 35 rfl) rfl (by decide) rfl ?_
      refine J_iinc (v := (x4 + 1)) (ls' := [(4, _), (3, _), (0, _), (2, _)]) (dk okX11_years 36 rfl) 3 rfl rfl (by decide) rfl ?_
      refine J_goto (tgt := 37) (dk okX11_years 37 rfl) (by decide) ?_
      exact J_sub [2, 3, 1, 0] rfl (kb x2 (x3 + (if (v_X1_moment 8 μ3) ≤ 0 then 0 else 1 : Int32)) (x4 + 1) μ3 (by subst eμ3; unfold bd_X11_years_37; first | (simp only [if_neg h1]; done) | (simp only [if_neg h1]; rfl) | rfl))
    refine J_if_le (tgt := 62) (dk okX11_years 30 rfl) (by decide) (fun h5 => ?_) (fun h5 => ?_)
    · refine J_iconst (v := 0) (dk okX11_years 33 rfl) (by decide) ?_
      refine J_sub (ls' := [(0, _), (2, _), (4, _)]) [0, 1, 3] rfl ?_
      (try simp only [if_pos h5] at K6 ⊢); exact K6
    · refine J_iconst (v := 1) (dk okX11_years 31 rfl) (by decide) ?_
      refine J_goto (tgt := 63) (dk okX11_years 32 rfl) (by decide) ?_
      refine J_sub (ls' := [(0, _), (2, _), (4, _)]) [0, 1, 3] rfl ?_
      (try simp only [if_neg h5] at K6 ⊢); exact K6
/-- VotingFloor.years(II)I -/
noncomputable def v_X11_years (p0 : Int32) (p1 : Int32) (μ : Mm) : Int32 := (if p1 < 1 then (-1) else (if p1 ≤ 60 then (let μ4 : Mm := (e_X1_become 8 1 μ); (let μ5 : Mm := (e_X0_start p0 μ4); (let r7 : Int32 × Mm := whl (fun s : Int32 × Int32 × Int32 × Mm => bd_X11_years_37  s.1 s.2.1 s.2.2.1 s.2.2.2) (fun s : Int32 × Int32 × Int32 × Mm => (0, s.2.2.2)) FU (p1, 0, 0, μ5); (let μ8 : Mm := (e_X10_begin  (r7.2)); (let μ10 : Mm := (e_X10_add (Int32.toInt64 (r7.1)) μ8); (let μ12 : Mm := (e_X10_add (Int32.toInt64 (v_X1_present 8 μ10)) μ10); (2000 + (v_X1_moment 8 μ12)))))))) else (-1)))
noncomputable def e_X11_years (p0 : Int32) (p1 : Int32) (μ : Mm) : Mm := (if p1 < 1 then μ else (if p1 ≤ 60 then (let μ4 : Mm := (e_X1_become 8 1 μ); (let μ5 : Mm := (e_X0_start p0 μ4); (let r7 : Int32 × Mm := whl (fun s : Int32 × Int32 × Int32 × Mm => bd_X11_years_37  s.1 s.2.1 s.2.2.1 s.2.2.2) (fun s : Int32 × Int32 × Int32 × Mm => (0, s.2.2.2)) FU (p1, 0, 0, μ5); (let μ8 : Mm := (e_X10_begin  (r7.2)); (let μ10 : Mm := (e_X10_add (Int32.toInt64 (r7.1)) μ8); (let μ12 : Mm := (e_X10_add (Int32.toInt64 (v_X1_present 8 μ10)) μ10); μ12)))))) else μ))
def p_X11_years (p0 : Int32) (p1 : Int32)  (μ : Mm) : Prop := (¬ (p1 < 1) → (p1 ≤ 60 → (p_X1_become 8 1 μ) ∧ (∀ μ4 : Mm, μ4 = (e_X1_become 8 1 μ) → (∀ μ5 : Mm, μ5 = (e_X0_start p0 μ4) → (whP (fun s : Int32 × Int32 × Int32 × Mm => bd_X11_years_37  s.1 s.2.1 s.2.2.1 s.2.2.2) (fun s : Int32 × Int32 × Int32 × Mm => sd_X11_years_37   s.1 s.2.1 s.2.2.1 s.2.2.2) FU (p1, 0, 0, μ5)) ∧ (∀ r7 : Int32 × Mm, r7 = whl (fun s : Int32 × Int32 × Int32 × Mm => bd_X11_years_37  s.1 s.2.1 s.2.2.1 s.2.2.2) (fun s : Int32 × Int32 × Int32 × Mm => (0, s.2.2.2)) FU (p1, 0, 0, μ5) → (∀ μ8 : Mm, μ8 = (e_X10_begin  (r7.2)) → (p_X10_add (Int32.toInt64 (r7.1)) μ8) ∧ (∀ μ10 : Mm, μ10 = (e_X10_add (Int32.toInt64 (r7.1)) μ8) → (p_X10_add (Int32.toInt64 (v_X1_present 8 μ10)) μ10) ∧ (∀ μ12 : Mm, μ12 = (e_X10_add (Int32.toInt64 (v_X1_present 8 μ10)) μ10) → p_X1_moment 8 μ12))))))))
set_option maxRecDepth 20000 in
set_option maxHeartbeats 4000000 in
theorem con_X11_years {E : Ex} {Q : Option Value → Mm → Prop} {p0 : Int32} {p1 : Int32} {μ : Mm} (t : p_X11_years p0 p1  μ) (k : Q (some (.int (v_X11_years p0 p1 μ))) (e_X11_years p0 p1 μ)) : Con E 6 mX11_years [rf E 0, .int p0, .int p1] μ Q := by
  refine Con_J (by decide +kernel) (Nat.le_of_ble_eq_true rfl) (fun G => ?_)
  unfold v_X11_years e_X11_years at k
  unfold p_X11_years at t
  refine J_sub (ls' := [(0, rf E 0), (1, .int p0), (2, .int p1)]) [0, 1, 2] rfl ?_
  refine J_iload_n (dk okX11_years 0 rfl) 2 rfl rfl ?_
  refine J_iconst (v := 1) (dk okX11_years 1 rfl) (by decide) ?_
  refine J_icmp_lt (tgt := 11) (dk okX11_years 2 rfl) (by decide) (fun h1 => ?_) (fun h1 => ?_)
  · refine J_iconst (v := (-1)) (dk okX11_years 6 rfl) (by decide) ?_
    (try simp only [if_pos h1] at k ⊢)
    exact J_iret (dk okX11_years 7 rfl) rfl k
  · have t := t h1
    refine J_iload_n (dk okX11_years 3 rfl) 2 rfl rfl ?_
    refine J_bipush (v := 60) (dk okX11_years 4 rfl) (by decide) ?_
    refine J_icmp_le (tgt := 13) (dk okX11_years 5 rfl) (by decide) (fun h2 => ?_) (fun h2 => ?_)
    · have t := t h2
      refine J_aload_n (dk okX11_years 8 rfl) 0 rfl rfl ?_
      refine J_getR (dk okX11_years 9 rfl) kfX11_16 ds_0 rfl ?_
      refine J_aload_n (dk okX11_years 10 rfl) 0 rfl rfl ?_
      refine J_getR (dk okX11_years 11 rfl) kfX11_12 ds_0 rfl ?_
      obtain ⟨s3, t⟩ := t
      refine J_callVv (As := [rf E 1]) (dk okX11_years 12 rfl) ds_8 rfl vkX1_become lkX11_259 rfl rfl (Nat.le_of_ble_eq_true rfl) (by decide) (con_X1_become FloorAt_8 FloorAt_1 s3 ⟨rfl, ?_⟩)
      refine J_nm (fun μ4 eμ4 => ?_)
      have t := t μ4 eμ4
      refine J_aload_n (dk okX11_years 13 rfl) 0 rfl rfl ?_
      refine J_getR (dk okX11_years 14 rfl) kfX11_81 ds_0 rfl ?_
      refine J_iload_n (dk okX11_years 15 rfl) 1 rfl rfl ?_
      refine J_callVv (As := [.int p0]) (dk okX11_years 16 rfl) ds_45 rfl vkX0_start lkX11_385 rfl rfl (Nat.le_of_ble_eq_true rfl) (by decide) (con_X0_start  ⟨rfl, ?_⟩)
      refine J_nm (fun μ5 eμ5 => ?_)
      have t := t μ5 eμ5
      refine J_iconst (v := 0) (dk okX11_years 17 rfl) (by decide) ?_
      refine J_istore_n (ls' := [(3, _), (0, _), (1, _), (2, _)]) (dk okX11_years 18 rfl) rfl (by decide) rfl ?_
      refine J_iconst (v := 0) (dk okX11_years 19 rfl) (by decide) ?_
      refine J_istore (ls' := [(4, _), (3, _), (0, _), (1, _), (2, _)]) (dk okX11_years 20 rfl) (by decide) rfl ?_
      obtain ⟨s6, t⟩ := t
      refine J_sub (ls' := [(0, _), (2, _), (3, _), (4, _)]) [2, 4, 1, 0] rfl ?_
      refine lw_X11_years_37  s6 (fun r7 er7 => ?_)
      have t := t r7 er7
      refine J_aload_n (dk okX11_years 38 rfl) 0 rfl rfl ?_
      refine J_getR (dk okX11_years 39 rfl) kfX11_39 ds_0 rfl ?_
      refine J_callVv (As := []) (dk okX11_years 40 rfl) ds_27 rfl vkX10_begin lkX11_196 rfl rfl (Nat.le_of_ble_eq_true rfl) (by decide) (con_X10_begin  ⟨rfl, ?_⟩)
      refine J_nm (fun μ8 eμ8 => ?_)
      have t := t μ8 eμ8
      refine J_aload_n (dk okX11_years 41 rfl) 0 rfl rfl ?_
      refine J_getR (dk okX11_years 42 rfl) kfX11_39 ds_0 rfl ?_
      refine J_iload_n (dk okX11_years 43 rfl) 1 rfl rfl ?_
      refine J_i2l (dk okX11_years 44 rfl) ?_
      obtain ⟨s9, t⟩ := t
      refine J_callVv (As := [.long (Int32.toInt64 (r7.1))]) (dk okX11_years 45 rfl) ds_27 rfl vkX10_add lkX11_199 rfl rfl (Nat.le_of_ble_eq_true rfl) (by decide) (con_X10_add s9 ⟨rfl, ?_⟩)
      refine J_nm (fun μ10 eμ10 => ?_)
      have t := t μ10 eμ10
      refine J_aload_n (dk okX11_years 46 rfl) 0 rfl rfl ?_
      refine J_getR (dk okX11_years 47 rfl) kfX11_39 ds_0 rfl ?_
      refine J_aload_n (dk okX11_years 48 rfl) 0 rfl rfl ?_
      refine J_getR (dk okX11_years 49 rfl) kfX11_16 ds_0 rfl ?_
      refine J_callVi (As := []) (dk okX11_years 50 rfl) ds_8 rfl vkX1_present lkX11_271 rfl rfl (Nat.le_of_ble_eq_true rfl) (by decide) (con_X1_present FloorAt_8 ⟨_, rfl, ?_⟩)
      refine J_i2l (dk okX11_years 51 rfl) ?_
      obtain ⟨s11, t⟩ := t
      refine J_callVv (As := [.long (Int32.toInt64 (v_X1_present 8 μ10))]) (dk okX11_years 52 rfl) ds_27 rfl vkX10_add lkX11_199 rfl rfl (Nat.le_of_ble_eq_true rfl) (by decide) (con_X10_add s11 ⟨rfl, ?_⟩)
      refine J_nm (fun μ12 eμ12 => ?_)
      have t := t μ12 eμ12
      refine J_sipush (v := 2000) (dk okX11_years 53 rfl) (by decide) ?_
      refine J_aload_n (dk okX11_years 54 rfl) 0 rfl rfl ?_
      refine J_getR (dk okX11_years 55 rfl) kfX11_16 ds_0 rfl ?_
      have s13 := t
      refine J_callVi (As := []) (dk okX11_years 56 rfl) ds_8 rfl vkX1_moment lkX11_163 rfl rfl (Nat.le_of_ble_eq_true rfl) (by decide) (con_X1_moment FloorAt_8 s13 ⟨_, rfl, ?_⟩)
      refine J_iadd (dk okX11_years 57 rfl) ?_
      subst eμ12 eμ10 eμ8 er7 eμ5 eμ4
      (try simp only [if_neg h1, if_pos h2] at k ⊢)
      exact J_iret (dk okX11_years 58 rfl) rfl k
    · refine J_iconst (v := (-1)) (dk okX11_years 6 rfl) (by decide) ?_
      (try simp only [if_neg h1, if_neg h2] at k ⊢)
      exact J_iret (dk okX11_years 7 rfl) rfl k
noncomputable def bd_X12_goesOn_5 (p0 : Nat) (x2 : Int32) (x3 : Int32) (x4 : Int32) (μ : Mm) : (Int32 × Int32 × Int32 × Mm) ⊕ (Int32 × Mm) := (if x2 ≤ x4 then .inr (x3, μ) else (let μ3 : Mm := (e_X12_minuteGoes p0 μ); .inl (x2, (x3 + (v_X12_minuteGoes p0 μ)), (x4 + 1), μ3)))
def sd_X12_goesOn_5 (p0 : Nat)  (x2 : Int32) (x3 : Int32) (x4 : Int32) (μ : Mm) : Prop := (¬ (x2 ≤ x4) → p_X12_minuteGoes p0 μ)
set_option maxRecDepth 20000 in
set_option maxHeartbeats 4000000 in
theorem lw_X12_goesOn_5 {E : Ex} {G : Gx} {Q : Option Value → Mm → Prop} {p0 : Nat} {x2 : Int32} {x3 : Int32} {x4 : Int32} {μ : Mm} (hp0 : dscL[p0]? = some (.inr (.inl (1, 24)))) (p : whP (fun s : Int32 × Int32 × Int32 × Mm => bd_X12_goesOn_5 p0 s.1 s.2.1 s.2.2.1 s.2.2.2) (fun s : Int32 × Int32 × Int32 × Mm => sd_X12_goesOn_5 p0  s.1 s.2.1 s.2.2.1 s.2.2.2) FU (x2, x3, x4, μ)) (k : ∀ r : Int32 × Mm, r = whl (fun s : Int32 × Int32 × Int32 × Mm => bd_X12_goesOn_5 p0 s.1 s.2.1 s.2.2.1 s.2.2.2) (fun s : Int32 × Int32 × Int32 × Mm => (0, s.2.2.2)) FU (x2, x3, x4, μ) → J E G 6 mX12_goesOn Q 25 [(3, .int (r.1))] [] (r.2)) : J E G 6 mX12_goesOn Q 5 [(0, rf E 49), (1, rf E p0), (2, .int x2), (3, .int x3), (4, .int x4)] [] μ := by
  refine J_whl (f := (fun s : Int32 × Int32 × Int32 × Mm => bd_X12_goesOn_5 p0 s.1 s.2.1 s.2.2.1 s.2.2.2)) (dd := (fun s : Int32 × Int32 × Int32 × Mm => (0, s.2.2.2))) (sd := (fun s : Int32 × Int32 × Int32 × Mm => sd_X12_goesOn_5 p0  s.1 s.2.1 s.2.2.1 s.2.2.2)) (P := fun s : Int32 × Int32 × Int32 × Mm => J E G 6 mX12_goesOn Q 5 [(0, rf E 49), (1, rf E p0), (2, .int (s.1)), (3, .int (s.2.1)), (4, .int (s.2.2.1))] [] (s.2.2.2)) (R := fun r : Int32 × Mm => J E G 6 mX12_goesOn Q 25 [(3, .int (r.1))] [] (r.2)) ?_ FU (x2, x3, x4, μ) p (k _ rfl)
  clear p k
  rintro ⟨x2, x3, x4, μ⟩ t k1 k2
  dsimp only [sd_X12_goesOn_5] at t
  have kb : ∀ (y2 : Int32) (y3 : Int32) (y4 : Int32) (μ9 : Mm), bd_X12_goesOn_5 p0 x2 x3 x4 μ = .inl (y2, y3, y4, μ9) → J E G 6 mX12_goesOn Q 5 [(0, rf E 49), (1, rf E p0), (2, .int y2), (3, .int y3), (4, .int y4)] [] μ9 := fun y2 y3 y4 μ9 h => k1 (y2, y3, y4, μ9) h
  have kx : ∀ (y3 : Int32) (μ9 : Mm), bd_X12_goesOn_5 p0 x2 x3 x4 μ = .inr (y3, μ9) → J E G 6 mX12_goesOn Q 25 [(3, .int y3)] [] μ9 := fun y3 μ9 h => k2 (y3, μ9) h
  clear k1 k2
  refine J_iload (dk okX12_goesOn 4 rfl) 4 rfl ?_
  refine J_iload_n (dk okX12_goesOn 5 rfl) 2 rfl rfl ?_
  refine J_icmp_ge (tgt := 25) (dk okX12_goesOn 6 rfl) (by decide) (fun h1 => ?_) (fun h1 => ?_)
  · exact J_sub [3] rfl (kx x3 μ (by unfold bd_X12_goesOn_5; first | (simp only [if_pos h1]; done) | (simp only [if_pos h1]; rfl) | rfl))
  · have t := t h1
    refine J_iload_n (dk okX12_goesOn 7 rfl) 3 rfl rfl ?_
    refine J_aload_n (dk okX12_goesOn 8 rfl) 0 rfl rfl ?_
    refine J_aload_n (dk okX12_goesOn 9 rfl) 1 rfl rfl ?_
    have s2 := t
    refine J_callVi (As := [rf E p0]) (dk okX12_goesOn 10 rfl) ds_49 rfl vkX12_minuteGoes lkX12_290 rfl rfl (Nat.le_of_ble_eq_true rfl) (by decide) (con_X12_minuteGoes hp0 s2 ⟨_, rfl, ?_⟩)
    refine J_nm (fun μ3 eμ3 => ?_)
    refine J_iadd (dk okX12_goesOn 11 rfl) ?_
    refine J_istore_n (ls' := [(3, _), (0, _), (1, _), (2, _), (4, _)]) (dk okX12_goesOn 12 rfl) rfl (by decide) rfl ?_
    refine J_iinc (v := (x4 + 1)) (ls' := [(4, _), (3, _), (0, _), (1, _), (2, _)]) (dk okX12_goesOn 13 rfl) 4 rfl rfl (by decide) rfl ?_
    refine J_goto (tgt := 5) (dk okX12_goesOn 14 rfl) (by decide) ?_
    exact J_sub [2, 3, 4, 1, 0] rfl (kb x2 (x3 + (v_X12_minuteGoes p0 μ)) (x4 + 1) μ3 (by subst eμ3; unfold bd_X12_goesOn_5; first | (simp only [if_neg h1]; done) | (simp only [if_neg h1]; rfl) | rfl))
/-- VotingFloorModel.goesOn([II)I -/
noncomputable def v_X12_goesOn (p0 : Nat) (p1 : Int32) (μ : Mm) : Int32 := (let r2 : Int32 × Mm := whl (fun s : Int32 × Int32 × Int32 × Mm => bd_X12_goesOn_5 p0 s.1 s.2.1 s.2.2.1 s.2.2.2) (fun s : Int32 × Int32 × Int32 × Mm => (0, s.2.2.2)) FU (p1, 0, 0, μ); (r2.1))
noncomputable def e_X12_goesOn (p0 : Nat) (p1 : Int32) (μ : Mm) : Mm := (let r2 : Int32 × Mm := whl (fun s : Int32 × Int32 × Int32 × Mm => bd_X12_goesOn_5 p0 s.1 s.2.1 s.2.2.1 s.2.2.2) (fun s : Int32 × Int32 × Int32 × Mm => (0, s.2.2.2)) FU (p1, 0, 0, μ); (r2.2))
def p_X12_goesOn (p0 : Nat) (p1 : Int32)  (μ : Mm) : Prop := whP (fun s : Int32 × Int32 × Int32 × Mm => bd_X12_goesOn_5 p0 s.1 s.2.1 s.2.2.1 s.2.2.2) (fun s : Int32 × Int32 × Int32 × Mm => sd_X12_goesOn_5 p0  s.1 s.2.1 s.2.2.1 s.2.2.2) FU (p1, 0, 0, μ)
set_option maxRecDepth 20000 in
set_option maxHeartbeats 4000000 in
theorem con_X12_goesOn {E : Ex} {Q : Option Value → Mm → Prop} {p0 : Nat} {p1 : Int32} {μ : Mm} (hp0 : dscL[p0]? = some (.inr (.inl (1, 24)))) (t : p_X12_goesOn p0 p1  μ) (k : Q (some (.int (v_X12_goesOn p0 p1 μ))) (e_X12_goesOn p0 p1 μ)) : Con E 6 mX12_goesOn [rf E 49, rf E p0, .int p1] μ Q := by
  refine Con_J (by decide +kernel) (Nat.le_of_ble_eq_true rfl) (fun G => ?_)
  unfold v_X12_goesOn e_X12_goesOn at k
  unfold p_X12_goesOn at t
  refine J_sub (ls' := [(0, rf E 49), (1, rf E p0), (2, .int p1)]) [0, 1, 2] rfl ?_
  refine J_iconst (v := 0) (dk okX12_goesOn 0 rfl) (by decide) ?_
  refine J_istore_n (ls' := [(3, _), (0, _), (1, _), (2, _)]) (dk okX12_goesOn 1 rfl) rfl (by decide) rfl ?_
  refine J_iconst (v := 0) (dk okX12_goesOn 2 rfl) (by decide) ?_
  refine J_istore (ls' := [(4, _), (3, _), (0, _), (1, _), (2, _)]) (dk okX12_goesOn 3 rfl) (by decide) rfl ?_
  have s1 := t
  refine J_sub (ls' := [(0, _), (1, _), (2, _), (3, _), (4, _)]) [2, 3, 4, 1, 0] rfl ?_
  refine lw_X12_goesOn_5 hp0 s1 (fun r2 er2 => ?_)
  refine J_iload_n (dk okX12_goesOn 15 rfl) 0 rfl rfl ?_
  subst er2
  exact J_iret (dk okX12_goesOn 16 rfl) rfl k
noncomputable def bd_X12_isAsSeen_49  (μ : Mm) (x1 : Int32) (x2 : Int32) (x3 : Int32) (x4 : Int32) (x5 : Int32) : (Int32 × Int32 × Int32 × Int32 × Int32) ⊕ (Int32 × Int32 × Int32 × Int32) := (if (μ.1 49 31) ≤ x5 then .inr (x1, x2, x3, x4) else .inl (x1, x2, (if x3 = 0 then 0 else (if (μ.1 68 (Int32.toNatClampNeg x5)) = x4 then (if (μ.1 53 (Int32.toNatClampNeg (7 + (μ.1 67 (Int32.toNatClampNeg x5))))) = (μ.1 69 (Int32.toNatClampNeg x5)) then 1 else 0 : Int32) else 1 : Int32) : Int32), x4, (x5 + 1)))
def sd_X12_isAsSeen_49   (μ : Mm) (x1 : Int32) (x2 : Int32) (x3 : Int32) (x4 : Int32) (x5 : Int32) : Prop := (¬ ((μ.1 49 31) ≤ x5) → (¬ (x3 = 0) → (vp_in x5 10) ∧ ((μ.1 68 (Int32.toNatClampNeg x5)) = x4 → (vp_in x5 10) ∧ (vp_in (7 + (μ.1 67 (Int32.toNatClampNeg x5))) 24) ∧ vp_in x5 10)))
set_option maxRecDepth 20000 in
set_option maxHeartbeats 4000000 in
theorem lw_X12_isAsSeen_49 {E : Ex} {G : Gx} {Q : Option Value → Mm → Prop} {x1 : Int32} {x2 : Int32} {x3 : Int32} {x4 : Int32} {x5 : Int32} {μ : Mm}  (p : whP (fun s : Int32 × Int32 × Int32 × Int32 × Int32 => bd_X12_isAsSeen_49  μ s.1 s.2.1 s.2.2.1 s.2.2.2.1 s.2.2.2.2) (fun s : Int32 × Int32 × Int32 × Int32 × Int32 => sd_X12_isAsSeen_49   μ s.1 s.2.1 s.2.2.1 s.2.2.2.1 s.2.2.2.2) FU (x1, x2, x3, x4, x5)) (k : ∀ r : Int32 × Int32 × Int32 × Int32, r = whl (fun s : Int32 × Int32 × Int32 × Int32 × Int32 => bd_X12_isAsSeen_49  μ s.1 s.2.1 s.2.2.1 s.2.2.2.1 s.2.2.2.2) (fun _ : Int32 × Int32 × Int32 × Int32 × Int32 => (0, 0, 0, 0)) FU (x1, x2, x3, x4, x5) → J E G 6 mX12_isAsSeen Q 111 [(0, rf E 49), (1, .int (r.1)), (2, .int (r.2.1)), (3, .int (r.2.2.1)), (4, .int (r.2.2.2))] [] μ) : J E G 6 mX12_isAsSeen Q 49 [(0, rf E 49), (1, .int x1), (2, .int x2), (3, .int x3), (4, .int x4), (5, .int x5)] [] μ := by
  refine J_whl (f := (fun s : Int32 × Int32 × Int32 × Int32 × Int32 => bd_X12_isAsSeen_49  μ s.1 s.2.1 s.2.2.1 s.2.2.2.1 s.2.2.2.2)) (dd := (fun _ : Int32 × Int32 × Int32 × Int32 × Int32 => (0, 0, 0, 0))) (sd := (fun s : Int32 × Int32 × Int32 × Int32 × Int32 => sd_X12_isAsSeen_49   μ s.1 s.2.1 s.2.2.1 s.2.2.2.1 s.2.2.2.2)) (P := fun s : Int32 × Int32 × Int32 × Int32 × Int32 => J E G 6 mX12_isAsSeen Q 49 [(0, rf E 49), (1, .int (s.1)), (2, .int (s.2.1)), (3, .int (s.2.2.1)), (4, .int (s.2.2.2.1)), (5, .int (s.2.2.2.2))] [] (μ)) (R := fun r : Int32 × Int32 × Int32 × Int32 => J E G 6 mX12_isAsSeen Q 111 [(0, rf E 49), (1, .int (r.1)), (2, .int (r.2.1)), (3, .int (r.2.2.1)), (4, .int (r.2.2.2))] [] μ) ?_ FU (x1, x2, x3, x4, x5) p (k _ rfl)
  clear p k
  rintro ⟨x1, x2, x3, x4, x5⟩ t k1 k2
  dsimp only [sd_X12_isAsSeen_49] at t
  have kb : ∀ (y1 : Int32) (y2 : Int32) (y3 : Int32) (y4 : Int32) (y5 : Int32) , bd_X12_isAsSeen_49  μ x1 x2 x3 x4 x5 = .inl (y1, y2, y3, y4, y5) → J E G 6 mX12_isAsSeen Q 49 [(0, rf E 49), (1, .int y1), (2, .int y2), (3, .int y3), (4, .int y4), (5, .int y5)] [] μ := fun y1 y2 y3 y4 y5  h => k1 (y1, y2, y3, y4, y5) h
  have kx : ∀ (y1 : Int32) (y2 : Int32) (y3 : Int32) (y4 : Int32) , bd_X12_isAsSeen_49  μ x1 x2 x3 x4 x5 = .inr (y1, y2, y3, y4) → J E G 6 mX12_isAsSeen Q 111 [(0, rf E 49), (1, .int y1), (2, .int y2), (3, .int y3), (4, .int y4)] [] μ := fun y1 y2 y3 y4  h => k2 (y1, y2, y3, y4) h
  clear k1 k2
  refine J_iload (dk okX12_isAsSeen 30 rfl) 5 rfl ?_
  refine J_aload_n (dk okX12_isAsSeen 31 rfl) 0 rfl rfl ?_
  refine J_getI (dk okX12_isAsSeen 32 rfl) kfX12_391 ds_49 rfl ?_
  refine J_icmp_ge (tgt := 111) (dk okX12_isAsSeen 33 rfl) (by decide) (fun h1 => ?_) (fun h1 => ?_)
  · exact J_sub [0, 1, 2, 3, 4] rfl (kx x1 x2 x3 x4 (by unfold bd_X12_isAsSeen_49; first | (simp only [if_pos h1]; done) | (simp only [if_pos h1]; rfl) | rfl))
  · have t := t h1
    refine J_iload_n (dk okX12_isAsSeen 34 rfl) 3 rfl rfl ?_
    have K9 : J E G 6 mX12_isAsSeen Q 104 [(0, rf E 49), (1, .int x1), (2, .int x2), (4, .int x4), (5, .int x5)] [.int (if x3 = 0 then 0 else (if (μ.1 68 (Int32.toNatClampNeg x5)) = x4 then (if (μ.1 53 (Int32.toNatClampNeg (7 + (μ.1 67 (Int32.toNatClampNeg x5))))) = (μ.1 69 (Int32.toNatClampNeg x5)) then 1 else 0 : Int32) else 1 : Int32) : Int32)] μ := by
      refine J_istore_n (ls' := [(3, _), (0, _), (1, _), (2, _), (4, _), (5, _)]) (dk okX12_isAsSeen 59 rfl) rfl (by decide) rfl ?_
      refine J_iinc (v := (x5 + 1)) (ls' := [(5, _), (3, _), (0, _), (1, _), (2, _), (4, _)]) (dk okX12_isAsSeen 60 rfl) 5 rfl rfl (by decide) rfl ?_
      refine J_goto (tgt := 49) (dk okX12_isAsSeen 61 rfl) (by decide) ?_
      exact J_sub [2, 3, 4, 1, 5, 0] rfl (kb x1 x2 (if x3 = 0 then 0 else (if (μ.1 68 (Int32.toNatClampNeg x5)) = x4 then (if (μ.1 53 (Int32.toNatClampNeg (7 + (μ.1 67 (Int32.toNatClampNeg x5))))) = (μ.1 69 (Int32.toNatClampNeg x5)) then 1 else 0 : Int32) else 1 : Int32) : Int32) x4 (x5 + 1) (by unfold bd_X12_isAsSeen_49; first | (simp only [if_neg h1]; done) | (simp only [if_neg h1]; rfl) | rfl))
    refine J_if_eq (tgt := 103) (dk okX12_isAsSeen 35 rfl) (by decide) (fun h2 => ?_) (fun h2 => ?_)
    · refine J_iconst (v := 0) (dk okX12_isAsSeen 58 rfl) (by decide) ?_
      refine J_sub (ls' := [(0, _), (1, _), (2, _), (4, _), (5, _)]) [0, 1, 2, 4, 5] rfl ?_
      (try simp only [if_pos h2] at K9 ⊢); exact K9
    · have t := t h2
      refine J_aload_n (dk okX12_isAsSeen 36 rfl) 0 rfl rfl ?_
      refine J_getR (dk okX12_isAsSeen 37 rfl) kfX12_80 ds_49 rfl ?_
      refine J_iload (dk okX12_isAsSeen 38 rfl) 5 rfl ?_
      obtain ⟨s3, t⟩ := t
      refine J_iald (dk okX12_isAsSeen 39 rfl) ds_68 s3 ?_
      refine J_iload (dk okX12_isAsSeen 40 rfl) 4 rfl ?_
      refine J_icmp_ne (tgt := 99) (dk okX12_isAsSeen 41 rfl) (by decide) (fun h4 => ?_) (fun h4 => ?_)
      · refine J_iconst (v := 1) (dk okX12_isAsSeen 56 rfl) (by decide) ?_
        refine J_goto (tgt := 104) (dk okX12_isAsSeen 57 rfl) (by decide) ?_
        refine J_sub (ls' := [(0, _), (1, _), (2, _), (4, _), (5, _)]) [0, 1, 2, 4, 5] rfl ?_
        (try simp only [if_neg h2, if_neg h4] at K9 ⊢); exact K9
      · have t := t h4
        refine J_aload_n (dk okX12_isAsSeen 42 rfl) 0 rfl rfl ?_
        refine J_getR (dk okX12_isAsSeen 43 rfl) kfX12_35 ds_49 rfl ?_
        refine J_bipush (v := 7) (dk okX12_isAsSeen 44 rfl) (by decide) ?_
        refine J_aload_n (dk okX12_isAsSeen 45 rfl) 0 rfl rfl ?_
        refine J_getR (dk okX12_isAsSeen 46 rfl) kfX12_77 ds_49 rfl ?_
        refine J_iload (dk okX12_isAsSeen 47 rfl) 5 rfl ?_
        obtain ⟨s5, t⟩ := t
        refine J_iald (dk okX12_isAsSeen 48 rfl) ds_67 s5 ?_
        refine J_iadd (dk okX12_isAsSeen 49 rfl) ?_
        obtain ⟨s6, t⟩ := t
        refine J_iald (dk okX12_isAsSeen 50 rfl) ds_53 s6 ?_
        refine J_aload_n (dk okX12_isAsSeen 51 rfl) 0 rfl rfl ?_
        refine J_getR (dk okX12_isAsSeen 52 rfl) kfX12_83 ds_49 rfl ?_
        refine J_iload (dk okX12_isAsSeen 53 rfl) 5 rfl ?_
        have s7 := t
        refine J_iald (dk okX12_isAsSeen 54 rfl) ds_69 s7 ?_
        refine J_icmp_ne (tgt := 103) (dk okX12_isAsSeen 55 rfl) (by decide) (fun h8 => ?_) (fun h8 => ?_)
        · refine J_iconst (v := 0) (dk okX12_isAsSeen 58 rfl) (by decide) ?_
          refine J_sub (ls' := [(0, _), (1, _), (2, _), (4, _), (5, _)]) [0, 1, 2, 4, 5] rfl ?_
          (try simp only [if_neg h2, if_pos h4, if_neg h8] at K9 ⊢); exact K9
        · refine J_iconst (v := 1) (dk okX12_isAsSeen 56 rfl) (by decide) ?_
          refine J_goto (tgt := 104) (dk okX12_isAsSeen 57 rfl) (by decide) ?_
          refine J_sub (ls' := [(0, _), (1, _), (2, _), (4, _), (5, _)]) [0, 1, 2, 4, 5] rfl ?_
          (try simp only [if_neg h2, if_pos h4, if_pos h8] at K9 ⊢); exact K9
noncomputable def bd_X12_isAsSeen_19  (x1 : Int32) (x2 : Int32) (x3 : Int32) (x4 : Int32) (μ : Mm) : (Int32 × Int32 × Int32 × Int32 × Mm) ⊕ (Int32 × Mm) := (if 20 < x4 then .inr (x3, μ) else (let μ4 : Mm := (upI μ 70 (Int32.toNatClampNeg (v_X12_page x2 x4)) (μ.1 53 (Int32.toNatClampNeg (7 + x1)))); (let r6 : Int32 × Int32 × Int32 × Int32 := whl (fun s : Int32 × Int32 × Int32 × Int32 × Int32 => bd_X12_isAsSeen_49  μ4 s.1 s.2.1 s.2.2.1 s.2.2.2.1 s.2.2.2.2) (fun _ : Int32 × Int32 × Int32 × Int32 × Int32 => (0, 0, 0, 0)) FU (x1, x2, x3, x4, 0); (let μ8 : Mm := (e_X12_minuteGoes 53 μ4); .inl ((r6.1), (r6.2.1), (r6.2.2.1), ((r6.2.2.2) + 1), μ8)))))
def sd_X12_isAsSeen_19   (x1 : Int32) (x2 : Int32) (x3 : Int32) (x4 : Int32) (μ : Mm) : Prop := (¬ (20 < x4) → (vp_in (7 + x1) 24) ∧ (vp_in (v_X12_page x2 x4) 399) ∧ (∀ μ4 : Mm, μ4 = (upI μ 70 (Int32.toNatClampNeg (v_X12_page x2 x4)) (μ.1 53 (Int32.toNatClampNeg (7 + x1)))) → (whP (fun s : Int32 × Int32 × Int32 × Int32 × Int32 => bd_X12_isAsSeen_49  μ4 s.1 s.2.1 s.2.2.1 s.2.2.2.1 s.2.2.2.2) (fun s : Int32 × Int32 × Int32 × Int32 × Int32 => sd_X12_isAsSeen_49   μ4 s.1 s.2.1 s.2.2.1 s.2.2.2.1 s.2.2.2.2) FU (x1, x2, x3, x4, 0)) ∧ (∀ r6 : Int32 × Int32 × Int32 × Int32, r6 = whl (fun s : Int32 × Int32 × Int32 × Int32 × Int32 => bd_X12_isAsSeen_49  μ4 s.1 s.2.1 s.2.2.1 s.2.2.2.1 s.2.2.2.2) (fun _ : Int32 × Int32 × Int32 × Int32 × Int32 => (0, 0, 0, 0)) FU (x1, x2, x3, x4, 0) → p_X12_minuteGoes 53 μ4)))
set_option maxRecDepth 20000 in
set_option maxHeartbeats 4000000 in
theorem lw_X12_isAsSeen_19 {E : Ex} {G : Gx} {Q : Option Value → Mm → Prop} {x1 : Int32} {x2 : Int32} {x3 : Int32} {x4 : Int32} {μ : Mm}  (p : whP (fun s : Int32 × Int32 × Int32 × Int32 × Mm => bd_X12_isAsSeen_19  s.1 s.2.1 s.2.2.1 s.2.2.2.1 s.2.2.2.2) (fun s : Int32 × Int32 × Int32 × Int32 × Mm => sd_X12_isAsSeen_19   s.1 s.2.1 s.2.2.1 s.2.2.2.1 s.2.2.2.2) FU (x1, x2, x3, x4, μ)) (k : ∀ r : Int32 × Mm, r = whl (fun s : Int32 × Int32 × Int32 × Int32 × Mm => bd_X12_isAsSeen_19  s.1 s.2.1 s.2.2.1 s.2.2.2.1 s.2.2.2.2) (fun s : Int32 × Int32 × Int32 × Int32 × Mm => (0, s.2.2.2.2)) FU (x1, x2, x3, x4, μ) → J E G 6 mX12_isAsSeen Q 126 [(3, .int (r.1))] [] (r.2)) : J E G 6 mX12_isAsSeen Q 19 [(0, rf E 49), (1, .int x1), (2, .int x2), (3, .int x3), (4, .int x4)] [] μ := by
  refine J_whl (f := (fun s : Int32 × Int32 × Int32 × Int32 × Mm => bd_X12_isAsSeen_19  s.1 s.2.1 s.2.2.1 s.2.2.2.1 s.2.2.2.2)) (dd := (fun s : Int32 × Int32 × Int32 × Int32 × Mm => (0, s.2.2.2.2))) (sd := (fun s : Int32 × Int32 × Int32 × Int32 × Mm => sd_X12_isAsSeen_19   s.1 s.2.1 s.2.2.1 s.2.2.2.1 s.2.2.2.2)) (P := fun s : Int32 × Int32 × Int32 × Int32 × Mm => J E G 6 mX12_isAsSeen Q 19 [(0, rf E 49), (1, .int (s.1)), (2, .int (s.2.1)), (3, .int (s.2.2.1)), (4, .int (s.2.2.2.1))] [] (s.2.2.2.2)) (R := fun r : Int32 × Mm => J E G 6 mX12_isAsSeen Q 126 [(3, .int (r.1))] [] (r.2)) ?_ FU (x1, x2, x3, x4, μ) p (k _ rfl)
  clear p k
  rintro ⟨x1, x2, x3, x4, μ⟩ t k1 k2
  dsimp only [sd_X12_isAsSeen_19] at t
  have kb : ∀ (y1 : Int32) (y2 : Int32) (y3 : Int32) (y4 : Int32) (μ9 : Mm), bd_X12_isAsSeen_19  x1 x2 x3 x4 μ = .inl (y1, y2, y3, y4, μ9) → J E G 6 mX12_isAsSeen Q 19 [(0, rf E 49), (1, .int y1), (2, .int y2), (3, .int y3), (4, .int y4)] [] μ9 := fun y1 y2 y3 y4 μ9 h => k1 (y1, y2, y3, y4, μ9) h
  have kx : ∀ (y3 : Int32) (μ9 : Mm), bd_X12_isAsSeen_19  x1 x2 x3 x4 μ = .inr (y3, μ9) → J E G 6 mX12_isAsSeen Q 126 [(3, .int y3)] [] μ9 := fun y3 μ9 h => k2 (y3, μ9) h
  clear k1 k2
  refine J_iload (dk okX12_isAsSeen 13 rfl) 4 rfl ?_
  refine J_bipush (v := 20) (dk okX12_isAsSeen 14 rfl) (by decide) ?_
  refine J_icmp_gt (tgt := 126) (dk okX12_isAsSeen 15 rfl) (by decide) (fun h1 => ?_) (fun h1 => ?_)
  · exact J_sub [3] rfl (kx x3 μ (by unfold bd_X12_isAsSeen_19; first | (simp only [if_pos h1]; done) | (simp only [if_pos h1]; rfl) | rfl))
  · have t := t h1
    refine J_aload_n (dk okX12_isAsSeen 16 rfl) 0 rfl rfl ?_
    refine J_getR (dk okX12_isAsSeen 17 rfl) kfX12_86 ds_49 rfl ?_
    refine J_iload_n (dk okX12_isAsSeen 18 rfl) 2 rfl rfl ?_
    refine J_iload (dk okX12_isAsSeen 19 rfl) 4 rfl ?_
    refine J_callSi (As := [.int x2, .int x4]) (dk okX12_isAsSeen 20 rfl) skX12_page lkX12_394 rfl rfl (Nat.le_of_ble_eq_true rfl) (by decide) (con_X12_page  ⟨_, rfl, ?_⟩)
    refine J_aload_n (dk okX12_isAsSeen 21 rfl) 0 rfl rfl ?_
    refine J_getR (dk okX12_isAsSeen 22 rfl) kfX12_35 ds_49 rfl ?_
    refine J_bipush (v := 7) (dk okX12_isAsSeen 23 rfl) (by decide) ?_
    refine J_iload_n (dk okX12_isAsSeen 24 rfl) 1 rfl rfl ?_
    refine J_iadd (dk okX12_isAsSeen 25 rfl) ?_
    obtain ⟨s2, t⟩ := t
    refine J_iald (dk okX12_isAsSeen 26 rfl) ds_53 s2 ?_
    obtain ⟨s3, t⟩ := t
    refine J_iast (dk okX12_isAsSeen 27 rfl) ds_70 s3 ?_
    refine J_nm (fun μ4 eμ4 => ?_)
    have t := t μ4 eμ4
    refine J_iconst (v := 0) (dk okX12_isAsSeen 28 rfl) (by decide) ?_
    refine J_istore (ls' := [(5, _), (0, _), (1, _), (2, _), (3, _), (4, _)]) (dk okX12_isAsSeen 29 rfl) (by decide) rfl ?_
    obtain ⟨s5, t⟩ := t
    refine J_sub (ls' := [(0, _), (1, _), (2, _), (3, _), (4, _), (5, _)]) [1, 2, 3, 4, 5, 0] rfl ?_
    refine lw_X12_isAsSeen_49  s5 (fun r6 er6 => ?_)
    have t := t r6 er6
    refine J_aload_n (dk okX12_isAsSeen 62 rfl) 0 rfl rfl ?_
    refine J_aload_n (dk okX12_isAsSeen 63 rfl) 0 rfl rfl ?_
    refine J_getR (dk okX12_isAsSeen 64 rfl) kfX12_35 ds_49 rfl ?_
    have s7 := t
    refine J_callVi (As := [rf E 53]) (dk okX12_isAsSeen 65 rfl) ds_49 rfl vkX12_minuteGoes lkX12_290 rfl rfl (Nat.le_of_ble_eq_true rfl) (by decide) (con_X12_minuteGoes ds_53 s7 ⟨_, rfl, ?_⟩)
    refine J_nm (fun μ8 eμ8 => ?_)
    refine J_pop (dk okX12_isAsSeen 66 rfl) rfl ?_
    refine J_iinc (v := ((r6.2.2.2) + 1)) (ls' := [(4, _), (0, _), (1, _), (2, _), (3, _)]) (dk okX12_isAsSeen 67 rfl) 4 rfl rfl (by decide) rfl ?_
    refine J_goto (tgt := 19) (dk okX12_isAsSeen 68 rfl) (by decide) ?_
    exact J_sub [1, 2, 3, 4, 0] rfl (kb (r6.1) (r6.2.1) (r6.2.2.1) ((r6.2.2.2) + 1) μ8 (by subst eμ8 er6 eμ4; unfold bd_X12_isAsSeen_19; first | (simp only [if_neg h1]; done) | (simp only [if_neg h1]; rfl) | rfl))
/-- VotingFloorModel.isAsSeen(II)Z -/
noncomputable def v_X12_isAsSeen (p0 : Int32) (p1 : Int32) (μ : Mm) : Int32 := (let μ2 : Mm := (e_X12_copies  μ); (let μ4 : Mm := (upI μ2 53 (Int32.toNatClampNeg p0) (p1 - 9)); (let r6 : Int32 × Mm := whl (fun s : Int32 × Int32 × Int32 × Int32 × Mm => bd_X12_isAsSeen_19  s.1 s.2.1 s.2.2.1 s.2.2.2.1 s.2.2.2.2) (fun s : Int32 × Int32 × Int32 × Int32 × Mm => (0, s.2.2.2.2)) FU (p0, p1, 1, 0, μ4); (r6.1))))
noncomputable def e_X12_isAsSeen (p0 : Int32) (p1 : Int32) (μ : Mm) : Mm := (let μ2 : Mm := (e_X12_copies  μ); (let μ4 : Mm := (upI μ2 53 (Int32.toNatClampNeg p0) (p1 - 9)); (let r6 : Int32 × Mm := whl (fun s : Int32 × Int32 × Int32 × Int32 × Mm => bd_X12_isAsSeen_19  s.1 s.2.1 s.2.2.1 s.2.2.2.1 s.2.2.2.2) (fun s : Int32 × Int32 × Int32 × Int32 × Mm => (0, s.2.2.2.2)) FU (p0, p1, 1, 0, μ4); (r6.2))))
def p_X12_isAsSeen (p0 : Int32) (p1 : Int32)  (μ : Mm) : Prop := (p_X12_copies μ) ∧ (∀ μ2 : Mm, μ2 = (e_X12_copies  μ) → (vp_in p0 24) ∧ (∀ μ4 : Mm, μ4 = (upI μ2 53 (Int32.toNatClampNeg p0) (p1 - 9)) → (whP (fun s : Int32 × Int32 × Int32 × Int32 × Mm => bd_X12_isAsSeen_19  s.1 s.2.1 s.2.2.1 s.2.2.2.1 s.2.2.2.2) (fun s : Int32 × Int32 × Int32 × Int32 × Mm => sd_X12_isAsSeen_19   s.1 s.2.1 s.2.2.1 s.2.2.2.1 s.2.2.2.2) FU (p0, p1, 1, 0, μ4)) ∧ (∀ r6 : Int32 × Mm, r6 = whl (fun s : Int32 × Int32 × Int32 × Int32 × Mm => bd_X12_isAsSeen_19  s.1 s.2.1 s.2.2.1 s.2.2.2.1 s.2.2.2.2) (fun s : Int32 × Int32 × Int32 × Int32 × Mm => (0, s.2.2.2.2)) FU (p0, p1, 1, 0, μ4) → narrow .boolean (.int (r6.1)) = .int (r6.1))))
set_option maxRecDepth 20000 in
set_option maxHeartbeats 4000000 in
theorem con_X12_isAsSeen {E : Ex} {Q : Option Value → Mm → Prop} {p0 : Int32} {p1 : Int32} {μ : Mm} (t : p_X12_isAsSeen p0 p1  μ) (k : Q (some (.int (v_X12_isAsSeen p0 p1 μ))) (e_X12_isAsSeen p0 p1 μ)) : Con E 6 mX12_isAsSeen [rf E 49, .int p0, .int p1] μ Q := by
  refine Con_J (by decide +kernel) (Nat.le_of_ble_eq_true rfl) (fun G => ?_)
  unfold v_X12_isAsSeen e_X12_isAsSeen at k
  unfold p_X12_isAsSeen at t
  refine J_sub (ls' := [(0, rf E 49), (1, .int p0), (2, .int p1)]) [0, 1, 2] rfl ?_
  refine J_aload_n (dk okX12_isAsSeen 0 rfl) 0 rfl rfl ?_
  obtain ⟨s1, t⟩ := t
  refine J_callVv (As := []) (dk okX12_isAsSeen 1 rfl) ds_49 rfl vkX12_copies lkX12_346 rfl rfl (Nat.le_of_ble_eq_true rfl) (by decide) (con_X12_copies s1 ⟨rfl, ?_⟩)
  refine J_nm (fun μ2 eμ2 => ?_)
  have t := t μ2 eμ2
  refine J_aload_n (dk okX12_isAsSeen 2 rfl) 0 rfl rfl ?_
  refine J_getR (dk okX12_isAsSeen 3 rfl) kfX12_35 ds_49 rfl ?_
  refine J_iload_n (dk okX12_isAsSeen 4 rfl) 1 rfl rfl ?_
  refine J_iload_n (dk okX12_isAsSeen 5 rfl) 2 rfl rfl ?_
  refine J_bipush (v := 9) (dk okX12_isAsSeen 6 rfl) (by decide) ?_
  refine J_isub (dk okX12_isAsSeen 7 rfl) ?_
  obtain ⟨s3, t⟩ := t
  refine J_iast (dk okX12_isAsSeen 8 rfl) ds_53 s3 ?_
  refine J_nm (fun μ4 eμ4 => ?_)
  have t := t μ4 eμ4
  refine J_iconst (v := 1) (dk okX12_isAsSeen 9 rfl) (by decide) ?_
  refine J_istore_n (ls' := [(3, _), (0, _), (1, _), (2, _)]) (dk okX12_isAsSeen 10 rfl) rfl (by decide) rfl ?_
  refine J_iconst (v := 0) (dk okX12_isAsSeen 11 rfl) (by decide) ?_
  refine J_istore (ls' := [(4, _), (3, _), (0, _), (1, _), (2, _)]) (dk okX12_isAsSeen 12 rfl) (by decide) rfl ?_
  obtain ⟨s5, t⟩ := t
  refine J_sub (ls' := [(0, _), (1, _), (2, _), (3, _), (4, _)]) [2, 3, 4, 1, 0] rfl ?_
  refine lw_X12_isAsSeen_19  s5 (fun r6 er6 => ?_)
  have t := t r6 er6
  refine J_iload_n (dk okX12_isAsSeen 69 rfl) 0 rfl rfl ?_
  have s7 := t
  subst er6 eμ4 eμ2
  exact J_zret (dk okX12_isAsSeen 70 rfl) rfl s7 k
noncomputable def bd_X12_level_18  (x1 : Int32) (x2 : Int32) (μ : Mm) : (Int32 × Int32 × Mm) ⊕ (Int32 × Mm) := (if 60 < x2 then .inr (x1, μ) else (let μ9 : Mm := (if (if (v_X12_moment 53 μ) = 0 then 1 else 0 : Int32) = 0 then μ else (if x1 = 0 then ((e_X12_enters (Int32.toInt64 x2) μ)) else μ : Mm) : Mm); (let μ11 : Mm := (e_X12_minuteGoes 53 μ9); .inl ((x1 + (v_X12_flag (if (v_X12_moment 53 μ) = 0 then 1 else 0 : Int32))), (x2 + 1), μ11))))
def sd_X12_level_18   (x1 : Int32) (x2 : Int32) (μ : Mm) : Prop := (¬ (60 < x2) → (p_X12_moment 53 μ) ∧ ((¬ ((if (v_X12_moment 53 μ) = 0 then 1 else 0 : Int32) = 0) → (x1 = 0 → p_X12_enters (Int32.toInt64 x2) μ))) ∧ (∀ μ9 : Mm, μ9 = (if (if (v_X12_moment 53 μ) = 0 then 1 else 0 : Int32) = 0 then μ else (if x1 = 0 then ((e_X12_enters (Int32.toInt64 x2) μ)) else μ : Mm) : Mm) → p_X12_minuteGoes 53 μ9))
set_option maxRecDepth 20000 in
set_option maxHeartbeats 4000000 in
theorem lw_X12_level_18 {E : Ex} {G : Gx} {Q : Option Value → Mm → Prop} {x1 : Int32} {x2 : Int32} {μ : Mm}  (p : whP (fun s : Int32 × Int32 × Mm => bd_X12_level_18  s.1 s.2.1 s.2.2) (fun s : Int32 × Int32 × Mm => sd_X12_level_18   s.1 s.2.1 s.2.2) FU (x1, x2, μ)) (k : ∀ r : Int32 × Mm, r = whl (fun s : Int32 × Int32 × Mm => bd_X12_level_18  s.1 s.2.1 s.2.2) (fun s : Int32 × Int32 × Mm => (0, s.2.2)) FU (x1, x2, μ) → J E G 6 mX12_level Q 77 [(1, .int (r.1))] [] (r.2)) : J E G 6 mX12_level Q 18 [(0, rf E 49), (1, .int x1), (2, .int x2)] [] μ := by
  refine J_whl (f := (fun s : Int32 × Int32 × Mm => bd_X12_level_18  s.1 s.2.1 s.2.2)) (dd := (fun s : Int32 × Int32 × Mm => (0, s.2.2))) (sd := (fun s : Int32 × Int32 × Mm => sd_X12_level_18   s.1 s.2.1 s.2.2)) (P := fun s : Int32 × Int32 × Mm => J E G 6 mX12_level Q 18 [(0, rf E 49), (1, .int (s.1)), (2, .int (s.2.1))] [] (s.2.2)) (R := fun r : Int32 × Mm => J E G 6 mX12_level Q 77 [(1, .int (r.1))] [] (r.2)) ?_ FU (x1, x2, μ) p (k _ rfl)
  clear p k
  rintro ⟨x1, x2, μ⟩ t k1 k2
  dsimp only [sd_X12_level_18] at t
  have kb : ∀ (y1 : Int32) (y2 : Int32) (μ9 : Mm), bd_X12_level_18  x1 x2 μ = .inl (y1, y2, μ9) → J E G 6 mX12_level Q 18 [(0, rf E 49), (1, .int y1), (2, .int y2)] [] μ9 := fun y1 y2 μ9 h => k1 (y1, y2, μ9) h
  have kx : ∀ (y1 : Int32) (μ9 : Mm), bd_X12_level_18  x1 x2 μ = .inr (y1, μ9) → J E G 6 mX12_level Q 77 [(1, .int y1)] [] μ9 := fun y1 μ9 h => k2 (y1, μ9) h
  clear k1 k2
  refine J_iload_n (dk okX12_level 12 rfl) 2 rfl rfl ?_
  refine J_bipush (v := 60) (dk okX12_level 13 rfl) (by decide) ?_
  refine J_icmp_gt (tgt := 77) (dk okX12_level 14 rfl) (by decide) (fun h1 => ?_) (fun h1 => ?_)
  · exact J_sub [1] rfl (kx x1 μ (by unfold bd_X12_level_18; first | (simp only [if_pos h1]; done) | (simp only [if_pos h1]; rfl) | rfl))
  · have t := t h1
    refine J_aload_n (dk okX12_level 15 rfl) 0 rfl rfl ?_
    refine J_aload_n (dk okX12_level 16 rfl) 0 rfl rfl ?_
    refine J_getR (dk okX12_level 17 rfl) kfX12_35 ds_49 rfl ?_
    obtain ⟨s2, t⟩ := t
    refine J_callVi (As := [rf E 53]) (dk okX12_level 18 rfl) ds_49 rfl vkX12_moment lkX12_275 rfl rfl (Nat.le_of_ble_eq_true rfl) (by decide) (con_X12_moment ds_53 s2 ⟨_, rfl, ?_⟩)
    have K4 : J E G 6 mX12_level Q 40 [(0, rf E 49), (1, .int x1), (2, .int x2)] [.int (if (v_X12_moment 53 μ) = 0 then 1 else 0 : Int32)] μ := by
      refine J_istore_n (ls' := [(3, _), (0, _), (1, _), (2, _)]) (dk okX12_level 23 rfl) rfl (by decide) rfl ?_
      refine J_iload_n (dk okX12_level 24 rfl) 0 rfl rfl ?_
      obtain ⟨t9, t⟩ := t
      have K12 : J E G 6 mX12_level Q 55 [(0, rf E 49), (1, .int x1), (2, .int x2), (3, .int (if (v_X12_moment 53 μ) = 0 then 1 else 0 : Int32))] [] (if (if (v_X12_moment 53 μ) = 0 then 1 else 0 : Int32) = 0 then μ else (if x1 = 0 then ((e_X12_enters (Int32.toInt64 x2) μ)) else μ : Mm) : Mm) := by
        refine J_nm (fun μ9 eμ9 => ?_)
        have t := t μ9 eμ9
        refine J_iload_n (dk okX12_level 32 rfl) 1 rfl rfl ?_
        refine J_iload_n (dk okX12_level 33 rfl) 3 rfl rfl ?_
        refine J_callSi (As := [.int (if (v_X12_moment 53 μ) = 0 then 1 else 0 : Int32)]) (dk okX12_level 34 rfl) skX12_flag lkX12_137 rfl rfl (Nat.le_of_ble_eq_true rfl) (by decide) (con_X12_flag  ⟨_, rfl, ?_⟩)
        refine J_iadd (dk okX12_level 35 rfl) ?_
        refine J_istore_n (ls' := [(1, _), (0, _), (2, _), (3, _)]) (dk okX12_level 36 rfl) rfl (by decide) rfl ?_
        refine J_aload_n (dk okX12_level 37 rfl) 1 rfl rfl ?_
        refine J_aload_n (dk okX12_level 38 rfl) 1 rfl rfl ?_
        refine J_getR (dk okX12_level 39 rfl) kfX12_35 ds_49 rfl ?_
        have s10 := t
        refine J_callVi (As := [rf E 53]) (dk okX12_level 40 rfl) ds_49 rfl vkX12_minuteGoes lkX12_290 rfl rfl (Nat.le_of_ble_eq_true rfl) (by decide) (con_X12_minuteGoes ds_53 s10 ⟨_, rfl, ?_⟩)
        refine J_nm (fun μ11 eμ11 => ?_)
        refine J_pop (dk okX12_level 41 rfl) rfl ?_
        refine J_iinc (v := (x2 + 1)) (ls' := [(2, _), (1, _), (0, _), (3, _)]) (dk okX12_level 42 rfl) 2 rfl rfl (by decide) rfl ?_
        refine J_goto (tgt := 18) (dk okX12_level 43 rfl) (by decide) ?_
        exact J_sub [2, 1, 0] rfl (kb (x1 + (v_X12_flag (if (v_X12_moment 53 μ) = 0 then 1 else 0 : Int32))) (x2 + 1) μ11 (by subst eμ11 eμ9; unfold bd_X12_level_18; first | (simp only [if_neg h1]; done) | (simp only [if_neg h1]; rfl) | rfl))
      have t := t9
      refine J_if_eq (tgt := 55) (dk okX12_level 25 rfl) (by decide) (fun h5 => ?_) (fun h5 => ?_)
      · refine J_sub (ls' := [(0, _), (1, _), (2, _), (3, _)]) [1, 2, 3, 0] rfl ?_
        (try simp only [if_pos h5] at K12 ⊢); exact K12
      · have t := t h5
        refine J_iload_n (dk okX12_level 26 rfl) 2 rfl rfl ?_
        refine J_if_ne (tgt := 55) (dk okX12_level 27 rfl) (by decide) (fun h6 => ?_) (fun h6 => ?_)
        · refine J_sub (ls' := [(0, _), (1, _), (2, _), (3, _)]) [1, 2, 3, 0] rfl ?_
          (try simp only [if_neg h5, if_neg h6] at K12 ⊢); exact K12
        · have t := t h6
          refine J_aload_n (dk okX12_level 28 rfl) 1 rfl rfl ?_
          refine J_iload_n (dk okX12_level 29 rfl) 3 rfl rfl ?_
          refine J_i2l (dk okX12_level 30 rfl) ?_
          have s7 := t
          refine J_callVv (As := [.long (Int32.toInt64 x2)]) (dk okX12_level 31 rfl) ds_49 rfl vkX12_enters lkX12_18 rfl rfl (Nat.le_of_ble_eq_true rfl) (by decide) (con_X12_enters s7 ⟨rfl, ?_⟩)
          refine J_nm (fun μ8 eμ8 => ?_)
          subst eμ8
          refine J_sub (ls' := [(0, _), (1, _), (2, _), (3, _)]) [1, 2, 3, 0] rfl ?_
          (try simp only [if_neg h5, if_pos h6] at K12 ⊢); exact K12
    refine J_if_ne (tgt := 39) (dk okX12_level 19 rfl) (by decide) (fun h3 => ?_) (fun h3 => ?_)
    · refine J_iconst (v := 0) (dk okX12_level 22 rfl) (by decide) ?_
      refine J_sub (ls' := [(0, _), (1, _), (2, _)]) [0, 1, 2] rfl ?_
      (try simp only [if_neg h3] at K4 ⊢); exact K4
    · refine J_iconst (v := 1) (dk okX12_level 20 rfl) (by decide) ?_
      refine J_goto (tgt := 40) (dk okX12_level 21 rfl) (by decide) ?_
      refine J_sub (ls' := [(0, _), (1, _), (2, _)]) [0, 1, 2] rfl ?_
      (try simp only [if_pos h3] at K4 ⊢); exact K4
/-- VotingFloorModel.level()I -/
noncomputable def v_X12_level  (μ : Mm) : Int32 := (let μ1 : Mm := (upI μ 49 0 0); (let μ3 : Mm := (e_X12_copies  μ1); (let μ4 : Mm := (upI μ3 49 1 0); (let r6 : Int32 × Mm := whl (fun s : Int32 × Int32 × Mm => bd_X12_level_18  s.1 s.2.1 s.2.2) (fun s : Int32 × Int32 × Mm => (0, s.2.2)) FU (0, 0, μ4); (r6.1)))))
noncomputable def e_X12_level  (μ : Mm) : Mm := (let μ1 : Mm := (upI μ 49 0 0); (let μ3 : Mm := (e_X12_copies  μ1); (let μ4 : Mm := (upI μ3 49 1 0); (let r6 : Int32 × Mm := whl (fun s : Int32 × Int32 × Mm => bd_X12_level_18  s.1 s.2.1 s.2.2) (fun s : Int32 × Int32 × Mm => (0, s.2.2)) FU (0, 0, μ4); (r6.2)))))
def p_X12_level   (μ : Mm) : Prop := (∀ μ1 : Mm, μ1 = (upI μ 49 0 0) → (p_X12_copies μ1) ∧ (∀ μ3 : Mm, μ3 = (e_X12_copies  μ1) → (∀ μ4 : Mm, μ4 = (upI μ3 49 1 0) → whP (fun s : Int32 × Int32 × Mm => bd_X12_level_18  s.1 s.2.1 s.2.2) (fun s : Int32 × Int32 × Mm => sd_X12_level_18   s.1 s.2.1 s.2.2) FU (0, 0, μ4))))
set_option maxRecDepth 20000 in
set_option maxHeartbeats 4000000 in
theorem con_X12_level {E : Ex} {Q : Option Value → Mm → Prop} {μ : Mm} (t : p_X12_level   μ) (k : Q (some (.int (v_X12_level  μ))) (e_X12_level  μ)) : Con E 6 mX12_level [rf E 49] μ Q := by
  refine Con_J (by decide +kernel) (Nat.le_of_ble_eq_true rfl) (fun G => ?_)
  unfold v_X12_level e_X12_level at k
  unfold p_X12_level at t
  refine J_sub (ls' := [(0, rf E 49)]) [0] rfl ?_
  refine J_aload_n (dk okX12_level 0 rfl) 0 rfl rfl ?_
  refine J_iconst (v := 0) (dk okX12_level 1 rfl) (by decide) ?_
  refine J_put (dk okX12_level 2 rfl) kpX12_3 ds_49 rfl rfl rfl ?_
  refine J_nm (fun μ1 eμ1 => ?_)
  have t := t μ1 eμ1
  refine J_aload_n (dk okX12_level 3 rfl) 0 rfl rfl ?_
  obtain ⟨s2, t⟩ := t
  refine J_callVv (As := []) (dk okX12_level 4 rfl) ds_49 rfl vkX12_copies lkX12_346 rfl rfl (Nat.le_of_ble_eq_true rfl) (by decide) (con_X12_copies s2 ⟨rfl, ?_⟩)
  refine J_nm (fun μ3 eμ3 => ?_)
  have t := t μ3 eμ3
  refine J_iconst (v := 0) (dk okX12_level 5 rfl) (by decide) ?_
  refine J_istore_n (ls' := [(1, _), (0, _)]) (dk okX12_level 6 rfl) rfl (by decide) rfl ?_
  refine J_aload_n (dk okX12_level 7 rfl) 1 rfl rfl ?_
  refine J_iconst (v := 0) (dk okX12_level 8 rfl) (by decide) ?_
  refine J_put (dk okX12_level 9 rfl) kpX12_15 ds_49 rfl rfl rfl ?_
  refine J_nm (fun μ4 eμ4 => ?_)
  have t := t μ4 eμ4
  refine J_iconst (v := 0) (dk okX12_level 10 rfl) (by decide) ?_
  refine J_istore_n (ls' := [(2, _), (1, _), (0, _)]) (dk okX12_level 11 rfl) rfl (by decide) rfl ?_
  have s5 := t
  refine J_sub (ls' := [(0, _), (1, _), (2, _)]) [2, 1, 0] rfl ?_
  refine lw_X12_level_18  s5 (fun r6 er6 => ?_)
  refine J_iload_n (dk okX12_level 44 rfl) 0 rfl rfl ?_
  subst er6 eμ4 eμ3 eμ1
  exact J_iret (dk okX12_level 45 rfl) rfl k
/-- VotingFloorModel.readsSigned(Ljava/lang/String;)Z -/
noncomputable def v_X12_readsSigned (p0 : Nat) (μ : Mm) : Int32 := (let μ2 : Mm := (e_X12_takesOf p0 μ); (if (if 0 ≤ (v_X12_takesOf p0 μ) then (v_X12_number 1 μ2) else (-1) : Int32) < 0 then 0 else 1 : Int32))
noncomputable def e_X12_readsSigned (p0 : Nat) (μ : Mm) : Mm := (let μ2 : Mm := (e_X12_takesOf p0 μ); (let μ6 : Mm := (if 0 ≤ (v_X12_takesOf p0 μ) then ((e_X12_number 1 μ2)) else μ2 : Mm); (let μ9 : Mm := (upI μ6 49 13 (if (v_X12_takesOf p0 μ) = 1 then (if 0 ≤ (v_X12_takesOf p0 μ) then (v_X12_number 1 μ2) else (-1) : Int32) else (-(if 0 ≤ (v_X12_takesOf p0 μ) then (v_X12_number 1 μ2) else (-1) : Int32)) : Int32)); μ9)))
def p_X12_readsSigned (p0 : Nat)  (μ : Mm) : Prop := (p_X12_takesOf p0 μ) ∧ (∀ μ2 : Mm, μ2 = (e_X12_takesOf p0 μ) → (0 ≤ (v_X12_takesOf p0 μ) → p_X12_number 1 μ2))
set_option maxRecDepth 20000 in
set_option maxHeartbeats 4000000 in
theorem con_X12_readsSigned {E : Ex} {Q : Option Value → Mm → Prop} {p0 : Nat} {μ : Mm} (hp0 : p0 < strN) (t : p_X12_readsSigned p0  μ) (k : Q (some (.int (v_X12_readsSigned p0 μ))) (e_X12_readsSigned p0 μ)) : Con E 6 mX12_readsSigned [rf E 49, sf E p0] μ Q := by
  refine Con_J (by decide +kernel) (Nat.le_of_ble_eq_true rfl) (fun G => ?_)
  unfold v_X12_readsSigned e_X12_readsSigned at k
  unfold p_X12_readsSigned at t
  refine J_sub (ls' := [(0, rf E 49), (1, sf E p0)]) [0, 1] rfl ?_
  refine J_aload_n (dk okX12_readsSigned 0 rfl) 0 rfl rfl ?_
  refine J_aload_nS (dk okX12_readsSigned 1 rfl) 1 rfl rfl ?_
  obtain ⟨s1, t⟩ := t
  refine J_callVi (As := [sf E p0]) (dk okX12_readsSigned 2 rfl) ds_49 rfl vkX12_takesOf lkX12_176 rfl rfl (Nat.le_of_ble_eq_true rfl) (by decide) (con_X12_takesOf hp0 s1 ⟨_, rfl, ?_⟩)
  refine J_nm (fun μ2 eμ2 => ?_)
  have t := t μ2 eμ2
  refine J_istore_n (ls' := [(2, _), (0, _), (1, _)]) (dk okX12_readsSigned 3 rfl) rfl (by decide) rfl ?_
  refine J_iload_n (dk okX12_readsSigned 4 rfl) 0 rfl rfl ?_
  have K12 : J E G 6 mX12_readsSigned Q 19 [(0, rf E 49), (2, .int (v_X12_takesOf p0 μ))] [.int (if 0 ≤ (v_X12_takesOf p0 μ) then (v_X12_number 1 μ2) else (-1) : Int32)] (if 0 ≤ (v_X12_takesOf p0 μ) then ((e_X12_number 1 μ2)) else μ2 : Mm) := by
    refine J_nm (fun μ6 eμ6 => ?_)
    refine J_istore_n (ls' := [(3, _), (0, _), (2, _)]) (dk okX12_readsSigned 11 rfl) rfl (by decide) rfl ?_
    refine J_aload_n (dk okX12_readsSigned 12 rfl) 1 rfl rfl ?_
    refine J_iload_n (dk okX12_readsSigned 13 rfl) 2 rfl rfl ?_
    refine J_iconst (v := 1) (dk okX12_readsSigned 14 rfl) (by decide) ?_
    have K8 : J E G 6 mX12_readsSigned Q 32 [(3, .int (if 0 ≤ (v_X12_takesOf p0 μ) then (v_X12_number 1 μ2) else (-1) : Int32))] [.int (if (v_X12_takesOf p0 μ) = 1 then (if 0 ≤ (v_X12_takesOf p0 μ) then (v_X12_number 1 μ2) else (-1) : Int32) else (-(if 0 ≤ (v_X12_takesOf p0 μ) then (v_X12_number 1 μ2) else (-1) : Int32)) : Int32), rf E 49] μ6 := by
      refine J_put (dk okX12_readsSigned 20 rfl) kpX12_184 ds_49 rfl rfl rfl ?_
      refine J_nm (fun μ9 eμ9 => ?_)
      refine J_iload_n (dk okX12_readsSigned 21 rfl) 0 rfl rfl ?_
      have K11 : J E G 6 mX12_readsSigned Q 44 [] [.int (if (if 0 ≤ (v_X12_takesOf p0 μ) then (v_X12_number 1 μ2) else (-1) : Int32) < 0 then 0 else 1 : Int32)] μ9 := by
        subst eμ9 eμ6 eμ2
        exact J_zret (dk okX12_readsSigned 26 rfl) rfl (by (repeat' split) <;> first | rfl | (simp only [*]; rfl)) k
      refine J_if_lt (tgt := 43) (dk okX12_readsSigned 22 rfl) (by decide) (fun h10 => ?_) (fun h10 => ?_)
      · refine J_iconst (v := 0) (dk okX12_readsSigned 25 rfl) (by decide) ?_
        refine J_sub (ls' := []) [] rfl ?_
        (try simp only [if_pos h10] at K11 ⊢); exact K11
      · refine J_iconst (v := 1) (dk okX12_readsSigned 23 rfl) (by decide) ?_
        refine J_goto (tgt := 44) (dk okX12_readsSigned 24 rfl) (by decide) ?_
        refine J_sub (ls' := []) [] rfl ?_
        (try simp only [if_neg h10] at K11 ⊢); exact K11
    refine J_icmp_ne (tgt := 30) (dk okX12_readsSigned 15 rfl) (by decide) (fun h7 => ?_) (fun h7 => ?_)
    · refine J_iload_n (dk okX12_readsSigned 18 rfl) 0 rfl rfl ?_
      refine J_ineg (dk okX12_readsSigned 19 rfl) ?_
      refine J_sub (ls' := [(3, _)]) [0] rfl ?_
      (try simp only [if_neg h7] at K8 ⊢); exact K8
    · refine J_iload_n (dk okX12_readsSigned 16 rfl) 0 rfl rfl ?_
      refine J_goto (tgt := 32) (dk okX12_readsSigned 17 rfl) (by decide) ?_
      refine J_sub (ls' := [(3, _)]) [0] rfl ?_
      (try simp only [if_pos h7] at K8 ⊢); exact K8
  refine J_if_ge (tgt := 14) (dk okX12_readsSigned 5 rfl) (by decide) (fun h3 => ?_) (fun h3 => ?_)
  · have t := t h3
    refine J_aload_n (dk okX12_readsSigned 8 rfl) 1 rfl rfl ?_
    refine J_iconst (v := 1) (dk okX12_readsSigned 9 rfl) (by decide) ?_
    have s4 := t
    refine J_callVi (As := [.int 1]) (dk okX12_readsSigned 10 rfl) ds_49 rfl vkX12_number lkX12_180 rfl rfl (Nat.le_of_ble_eq_true rfl) (by decide) (con_X12_number s4 ⟨_, rfl, ?_⟩)
    refine J_nm (fun μ5 eμ5 => ?_)
    subst eμ5
    refine J_sub (ls' := [(0, _), (2, _)]) [1, 0] rfl ?_
    (try simp only [if_pos h3] at K12 ⊢); exact K12
  · refine J_iconst (v := (-1)) (dk okX12_readsSigned 6 rfl) (by decide) ?_
    refine J_goto (tgt := 19) (dk okX12_readsSigned 7 rfl) (by decide) ?_
    refine J_sub (ls' := [(0, _), (2, _)]) [1, 0] rfl ?_
    (try simp only [if_neg h3] at K12 ⊢); exact K12
noncomputable def bd_X12_rest_11  (x1 : Int32) (μ : Mm) : (Int32 × Mm) ⊕ (Int32 × Mm) := (if 60 < x1 then .inr ((-2), μ) else (let μ4 : Mm := (e_X12_minuteGoes 53 μ); (if (v_X12_minuteGoes 53 μ) = 0 then (let μ6 : Mm := (upI μ4 49 1 0); (let μ8 : Mm := (e_X12_enters (Int32.toInt64 (2000 + (v_X12_moment 53 μ))) μ6); .inr (x1, μ8))) else .inl ((x1 + 1), μ4))))
def sd_X12_rest_11   (x1 : Int32) (μ : Mm) : Prop := (¬ (60 < x1) → (p_X12_moment 53 μ) ∧ (p_X12_minuteGoes 53 μ) ∧ (∀ μ4 : Mm, μ4 = (e_X12_minuteGoes 53 μ) → ((v_X12_minuteGoes 53 μ) = 0 → (∀ μ6 : Mm, μ6 = (upI μ4 49 1 0) → p_X12_enters (Int32.toInt64 (2000 + (v_X12_moment 53 μ))) μ6))))
set_option maxRecDepth 20000 in
set_option maxHeartbeats 4000000 in
theorem lw_X12_rest_11 {E : Ex} {G : Gx} {Q : Option Value → Mm → Prop} {x1 : Int32} {μ : Mm}  (p : whP (fun s : Int32 × Mm => bd_X12_rest_11  s.1 s.2) (fun s : Int32 × Mm => sd_X12_rest_11   s.1 s.2) FU (x1, μ)) (k : Q (some (.int (whl (fun s : Int32 × Mm => bd_X12_rest_11  s.1 s.2) (fun s : Int32 × Mm => (0, s.2)) FU (x1, μ)).1)) (whl (fun s : Int32 × Mm => bd_X12_rest_11  s.1 s.2) (fun s : Int32 × Mm => (0, s.2)) FU (x1, μ)).2) : J E G 6 mX12_rest Q 11 [(0, rf E 49), (1, .int x1)] [] μ := by
  refine J_whl (f := (fun s : Int32 × Mm => bd_X12_rest_11  s.1 s.2)) (dd := (fun s : Int32 × Mm => (0, s.2))) (sd := (fun s : Int32 × Mm => sd_X12_rest_11   s.1 s.2)) (P := fun s : Int32 × Mm => J E G 6 mX12_rest Q 11 [(0, rf E 49), (1, .int (s.1))] [] (s.2)) (R := fun r : Int32 × Mm => Q (some (.int (r).1)) (r).2) ?_ FU (x1, μ) p k
  clear p k
  rintro ⟨x1, μ⟩ t k1 k2
  dsimp only [sd_X12_rest_11] at t
  have kb : ∀ (y1 : Int32) (μ9 : Mm), bd_X12_rest_11  x1 μ = .inl (y1, μ9) → J E G 6 mX12_rest Q 11 [(0, rf E 49), (1, .int y1)] [] μ9 := fun y1 μ9 h => k1 (y1, μ9) h
  have kx : ∀ (y : Int32) (μ9 : Mm), bd_X12_rest_11  x1 μ = .inr (y, μ9) → Q (some (.int y)) μ9 := fun y μ9 h => k2 (y, μ9) h
  clear k1 k2
  refine J_iload_n (dk okX12_rest 7 rfl) 1 rfl rfl ?_
  refine J_bipush (v := 60) (dk okX12_rest 8 rfl) (by decide) ?_
  refine J_icmp_gt (tgt := 60) (dk okX12_rest 9 rfl) (by decide) (fun h1 => ?_) (fun h1 => ?_)
  · refine J_bipush (v := (-2)) (dk okX12_rest 33 rfl) (by decide) ?_
    exact J_iret (dk okX12_rest 34 rfl) rfl (kx (-2) μ (by unfold bd_X12_rest_11; first | (simp only [if_pos h1]; done) | (simp only [if_pos h1]; rfl) | rfl))
  · have t := t h1
    refine J_aload_n (dk okX12_rest 10 rfl) 0 rfl rfl ?_
    refine J_aload_n (dk okX12_rest 11 rfl) 0 rfl rfl ?_
    refine J_getR (dk okX12_rest 12 rfl) kfX12_35 ds_49 rfl ?_
    obtain ⟨s2, t⟩ := t
    refine J_callVi (As := [rf E 53]) (dk okX12_rest 13 rfl) ds_49 rfl vkX12_moment lkX12_275 rfl rfl (Nat.le_of_ble_eq_true rfl) (by decide) (con_X12_moment ds_53 s2 ⟨_, rfl, ?_⟩)
    refine J_istore_n (ls' := [(2, _), (0, _), (1, _)]) (dk okX12_rest 14 rfl) rfl (by decide) rfl ?_
    refine J_aload_n (dk okX12_rest 15 rfl) 1 rfl rfl ?_
    refine J_aload_n (dk okX12_rest 16 rfl) 1 rfl rfl ?_
    refine J_getR (dk okX12_rest 17 rfl) kfX12_35 ds_49 rfl ?_
    obtain ⟨s3, t⟩ := t
    refine J_callVi (As := [rf E 53]) (dk okX12_rest 18 rfl) ds_49 rfl vkX12_minuteGoes lkX12_290 rfl rfl (Nat.le_of_ble_eq_true rfl) (by decide) (con_X12_minuteGoes ds_53 s3 ⟨_, rfl, ?_⟩)
    refine J_nm (fun μ4 eμ4 => ?_)
    have t := t μ4 eμ4
    refine J_if_ne (tgt := 54) (dk okX12_rest 19 rfl) (by decide) (fun h5 => ?_) (fun h5 => ?_)
    · refine J_iinc (v := (x1 + 1)) (ls' := [(1, _), (2, _), (0, _)]) (dk okX12_rest 31 rfl) 2 rfl rfl (by decide) rfl ?_
      refine J_goto (tgt := 11) (dk okX12_rest 32 rfl) (by decide) ?_
      exact J_sub [2, 0] rfl (kb (x1 + 1) μ4 (by subst eμ4; unfold bd_X12_rest_11; first | (simp only [if_neg h1, if_neg h5]; done) | (simp only [if_neg h1, if_neg h5]; rfl) | rfl))
    · have t := t h5
      refine J_aload_n (dk okX12_rest 20 rfl) 1 rfl rfl ?_
      refine J_iconst (v := 0) (dk okX12_rest 21 rfl) (by decide) ?_
      refine J_put (dk okX12_rest 22 rfl) kpX12_15 ds_49 rfl rfl rfl ?_
      refine J_nm (fun μ6 eμ6 => ?_)
      have t := t μ6 eμ6
      refine J_aload_n (dk okX12_rest 23 rfl) 1 rfl rfl ?_
      refine J_sipush (v := 2000) (dk okX12_rest 24 rfl) (by decide) ?_
      refine J_iload_n (dk okX12_rest 25 rfl) 0 rfl rfl ?_
      refine J_iadd (dk okX12_rest 26 rfl) ?_
      refine J_i2l (dk okX12_rest 27 rfl) ?_
      have s7 := t
      refine J_callVv (As := [.long (Int32.toInt64 (2000 + (v_X12_moment 53 μ)))]) (dk okX12_rest 28 rfl) ds_49 rfl vkX12_enters lkX12_18 rfl rfl (Nat.le_of_ble_eq_true rfl) (by decide) (con_X12_enters s7 ⟨rfl, ?_⟩)
      refine J_nm (fun μ8 eμ8 => ?_)
      refine J_iload_n (dk okX12_rest 29 rfl) 2 rfl rfl ?_
      exact J_iret (dk okX12_rest 30 rfl) rfl (kx x1 μ8 (by subst eμ8 eμ6 eμ4; unfold bd_X12_rest_11; first | (simp only [if_neg h1, if_pos h5]; done) | (simp only [if_neg h1, if_pos h5]; rfl) | rfl))
/-- VotingFloorModel.rest()I -/
noncomputable def v_X12_rest  (μ : Mm) : Int32 := (let μ1 : Mm := (upI μ 49 0 0); (let μ3 : Mm := (e_X12_copies  μ1); (whl (fun s : Int32 × Mm => bd_X12_rest_11  s.1 s.2) (fun s : Int32 × Mm => (0, s.2)) FU (0, μ3)).1))
noncomputable def e_X12_rest  (μ : Mm) : Mm := (let μ1 : Mm := (upI μ 49 0 0); (let μ3 : Mm := (e_X12_copies  μ1); (whl (fun s : Int32 × Mm => bd_X12_rest_11  s.1 s.2) (fun s : Int32 × Mm => (0, s.2)) FU (0, μ3)).2))
def p_X12_rest   (μ : Mm) : Prop := (∀ μ1 : Mm, μ1 = (upI μ 49 0 0) → (p_X12_copies μ1) ∧ (∀ μ3 : Mm, μ3 = (e_X12_copies  μ1) → whP (fun s : Int32 × Mm => bd_X12_rest_11  s.1 s.2) (fun s : Int32 × Mm => sd_X12_rest_11   s.1 s.2) FU (0, μ3)))
set_option maxRecDepth 20000 in
set_option maxHeartbeats 4000000 in
theorem con_X12_rest {E : Ex} {Q : Option Value → Mm → Prop} {μ : Mm} (t : p_X12_rest   μ) (k : Q (some (.int (v_X12_rest  μ))) (e_X12_rest  μ)) : Con E 6 mX12_rest [rf E 49] μ Q := by
  refine Con_J (by decide +kernel) (Nat.le_of_ble_eq_true rfl) (fun G => ?_)
  unfold v_X12_rest e_X12_rest at k
  unfold p_X12_rest at t
  refine J_sub (ls' := [(0, rf E 49)]) [0] rfl ?_
  refine J_aload_n (dk okX12_rest 0 rfl) 0 rfl rfl ?_
  refine J_iconst (v := 0) (dk okX12_rest 1 rfl) (by decide) ?_
  refine J_put (dk okX12_rest 2 rfl) kpX12_3 ds_49 rfl rfl rfl ?_
  refine J_nm (fun μ1 eμ1 => ?_)
  have t := t μ1 eμ1
  refine J_aload_n (dk okX12_rest 3 rfl) 0 rfl rfl ?_
  obtain ⟨s2, t⟩ := t
  refine J_callVv (As := []) (dk okX12_rest 4 rfl) ds_49 rfl vkX12_copies lkX12_346 rfl rfl (Nat.le_of_ble_eq_true rfl) (by decide) (con_X12_copies s2 ⟨rfl, ?_⟩)
  refine J_nm (fun μ3 eμ3 => ?_)
  have t := t μ3 eμ3
  refine J_iconst (v := 0) (dk okX12_rest 5 rfl) (by decide) ?_
  refine J_istore_n (ls' := [(1, _), (0, _)]) (dk okX12_rest 6 rfl) rfl (by decide) rfl ?_
  have s4 := t
  refine J_sub (ls' := [(0, _), (1, _)]) [1, 0] rfl ?_
  subst eμ3 eμ1
  exact lw_X12_rest_11  s4 k
noncomputable def bd_X12_swings_11  (x1 : Int32) (μ : Mm) : (Int32 × Mm) ⊕ (Int32 × Mm) := (if 60 < x1 then .inr ((-2), μ) else (let μ3 : Mm := (e_X12_minuteGoes 53 μ); (if (v_X12_side (v_X12_moment 53 μ3)) = (v_X12_side (v_X12_moment 52 μ3)) then .inl ((x1 + 1), μ3) else (let μ7 : Mm := (upI μ3 49 1 0); (let μ10 : Mm := (e_X12_enters (Int32.toInt64 (1 + (v_X12_side (v_X12_moment 53 μ7)))) μ7); .inr (x1, μ10))))))
def sd_X12_swings_11   (x1 : Int32) (μ : Mm) : Prop := (¬ (60 < x1) → (p_X12_minuteGoes 53 μ) ∧ (∀ μ3 : Mm, μ3 = (e_X12_minuteGoes 53 μ) → (p_X12_moment 53 μ3) ∧ (p_X12_moment 52 μ3) ∧ (¬ ((v_X12_side (v_X12_moment 53 μ3)) = (v_X12_side (v_X12_moment 52 μ3))) → (∀ μ7 : Mm, μ7 = (upI μ3 49 1 0) → (p_X12_moment 53 μ7) ∧ p_X12_enters (Int32.toInt64 (1 + (v_X12_side (v_X12_moment 53 μ7)))) μ7))))
set_option maxRecDepth 20000 in
set_option maxHeartbeats 4000000 in
theorem lw_X12_swings_11 {E : Ex} {G : Gx} {Q : Option Value → Mm → Prop} {x1 : Int32} {μ : Mm}  (p : whP (fun s : Int32 × Mm => bd_X12_swings_11  s.1 s.2) (fun s : Int32 × Mm => sd_X12_swings_11   s.1 s.2) FU (x1, μ)) (k : Q (some (.int (whl (fun s : Int32 × Mm => bd_X12_swings_11  s.1 s.2) (fun s : Int32 × Mm => (0, s.2)) FU (x1, μ)).1)) (whl (fun s : Int32 × Mm => bd_X12_swings_11  s.1 s.2) (fun s : Int32 × Mm => (0, s.2)) FU (x1, μ)).2) : J E G 6 mX12_swings Q 11 [(0, rf E 49), (1, .int x1)] [] μ := by
  refine J_whl (f := (fun s : Int32 × Mm => bd_X12_swings_11  s.1 s.2)) (dd := (fun s : Int32 × Mm => (0, s.2))) (sd := (fun s : Int32 × Mm => sd_X12_swings_11   s.1 s.2)) (P := fun s : Int32 × Mm => J E G 6 mX12_swings Q 11 [(0, rf E 49), (1, .int (s.1))] [] (s.2)) (R := fun r : Int32 × Mm => Q (some (.int (r).1)) (r).2) ?_ FU (x1, μ) p k
  clear p k
  rintro ⟨x1, μ⟩ t k1 k2
  dsimp only [sd_X12_swings_11] at t
  have kb : ∀ (y1 : Int32) (μ9 : Mm), bd_X12_swings_11  x1 μ = .inl (y1, μ9) → J E G 6 mX12_swings Q 11 [(0, rf E 49), (1, .int y1)] [] μ9 := fun y1 μ9 h => k1 (y1, μ9) h
  have kx : ∀ (y : Int32) (μ9 : Mm), bd_X12_swings_11  x1 μ = .inr (y, μ9) → Q (some (.int y)) μ9 := fun y μ9 h => k2 (y, μ9) h
  clear k1 k2
  refine J_iload_n (dk okX12_swings 7 rfl) 1 rfl rfl ?_
  refine J_bipush (v := 60) (dk okX12_swings 8 rfl) (by decide) ?_
  refine J_icmp_gt (tgt := 82) (dk okX12_swings 9 rfl) (by decide) (fun h1 => ?_) (fun h1 => ?_)
  · refine J_bipush (v := (-2)) (dk okX12_swings 43 rfl) (by decide) ?_
    exact J_iret (dk okX12_swings 44 rfl) rfl (kx (-2) μ (by unfold bd_X12_swings_11; first | (simp only [if_pos h1]; done) | (simp only [if_pos h1]; rfl) | rfl))
  · have t := t h1
    refine J_aload_n (dk okX12_swings 10 rfl) 0 rfl rfl ?_
    refine J_aload_n (dk okX12_swings 11 rfl) 0 rfl rfl ?_
    refine J_getR (dk okX12_swings 12 rfl) kfX12_35 ds_49 rfl ?_
    obtain ⟨s2, t⟩ := t
    refine J_callVi (As := [rf E 53]) (dk okX12_swings 13 rfl) ds_49 rfl vkX12_minuteGoes lkX12_290 rfl rfl (Nat.le_of_ble_eq_true rfl) (by decide) (con_X12_minuteGoes ds_53 s2 ⟨_, rfl, ?_⟩)
    refine J_nm (fun μ3 eμ3 => ?_)
    have t := t μ3 eμ3
    refine J_pop (dk okX12_swings 14 rfl) rfl ?_
    refine J_aload_n (dk okX12_swings 15 rfl) 0 rfl rfl ?_
    refine J_aload_n (dk okX12_swings 16 rfl) 0 rfl rfl ?_
    refine J_getR (dk okX12_swings 17 rfl) kfX12_35 ds_49 rfl ?_
    obtain ⟨s4, t⟩ := t
    refine J_callVi (As := [rf E 53]) (dk okX12_swings 18 rfl) ds_49 rfl vkX12_moment lkX12_275 rfl rfl (Nat.le_of_ble_eq_true rfl) (by decide) (con_X12_moment ds_53 s4 ⟨_, rfl, ?_⟩)
    refine J_callSi (As := [.int (v_X12_moment 53 μ3)]) (dk okX12_swings 19 rfl) skX12_side lkX12_260 rfl rfl (Nat.le_of_ble_eq_true rfl) (by decide) (con_X12_side  ⟨_, rfl, ?_⟩)
    refine J_aload_n (dk okX12_swings 20 rfl) 0 rfl rfl ?_
    refine J_aload_n (dk okX12_swings 21 rfl) 0 rfl rfl ?_
    refine J_getR (dk okX12_swings 22 rfl) kfX12_32 ds_49 rfl ?_
    obtain ⟨s5, t⟩ := t
    refine J_callVi (As := [rf E 52]) (dk okX12_swings 23 rfl) ds_49 rfl vkX12_moment lkX12_275 rfl rfl (Nat.le_of_ble_eq_true rfl) (by decide) (con_X12_moment ds_52 s5 ⟨_, rfl, ?_⟩)
    refine J_callSi (As := [.int (v_X12_moment 52 μ3)]) (dk okX12_swings 24 rfl) skX12_side lkX12_260 rfl rfl (Nat.le_of_ble_eq_true rfl) (by decide) (con_X12_side  ⟨_, rfl, ?_⟩)
    refine J_icmp_eq (tgt := 76) (dk okX12_swings 25 rfl) (by decide) (fun h6 => ?_) (fun h6 => ?_)
    · refine J_iinc (v := (x1 + 1)) (ls' := [(1, _), (0, _)]) (dk okX12_swings 41 rfl) 1 rfl rfl (by decide) rfl ?_
      refine J_goto (tgt := 11) (dk okX12_swings 42 rfl) (by decide) ?_
      exact J_sub [1, 0] rfl (kb (x1 + 1) μ3 (by subst eμ3; unfold bd_X12_swings_11; first | (simp only [if_neg h1, if_pos h6]; done) | (simp only [if_neg h1, if_pos h6]; rfl) | rfl))
    · have t := t h6
      refine J_aload_n (dk okX12_swings 26 rfl) 0 rfl rfl ?_
      refine J_iconst (v := 0) (dk okX12_swings 27 rfl) (by decide) ?_
      refine J_put (dk okX12_swings 28 rfl) kpX12_15 ds_49 rfl rfl rfl ?_
      refine J_nm (fun μ7 eμ7 => ?_)
      have t := t μ7 eμ7
      refine J_aload_n (dk okX12_swings 29 rfl) 0 rfl rfl ?_
      refine J_iconst (v := 1) (dk okX12_swings 30 rfl) (by decide) ?_
      refine J_aload_n (dk okX12_swings 31 rfl) 0 rfl rfl ?_
      refine J_aload_n (dk okX12_swings 32 rfl) 0 rfl rfl ?_
      refine J_getR (dk okX12_swings 33 rfl) kfX12_35 ds_49 rfl ?_
      obtain ⟨s8, t⟩ := t
      refine J_callVi (As := [rf E 53]) (dk okX12_swings 34 rfl) ds_49 rfl vkX12_moment lkX12_275 rfl rfl (Nat.le_of_ble_eq_true rfl) (by decide) (con_X12_moment ds_53 s8 ⟨_, rfl, ?_⟩)
      refine J_callSi (As := [.int (v_X12_moment 53 μ7)]) (dk okX12_swings 35 rfl) skX12_side lkX12_260 rfl rfl (Nat.le_of_ble_eq_true rfl) (by decide) (con_X12_side  ⟨_, rfl, ?_⟩)
      refine J_iadd (dk okX12_swings 36 rfl) ?_
      refine J_i2l (dk okX12_swings 37 rfl) ?_
      have s9 := t
      refine J_callVv (As := [.long (Int32.toInt64 (1 + (v_X12_side (v_X12_moment 53 μ7))))]) (dk okX12_swings 38 rfl) ds_49 rfl vkX12_enters lkX12_18 rfl rfl (Nat.le_of_ble_eq_true rfl) (by decide) (con_X12_enters s9 ⟨rfl, ?_⟩)
      refine J_nm (fun μ10 eμ10 => ?_)
      refine J_iload_n (dk okX12_swings 39 rfl) 1 rfl rfl ?_
      exact J_iret (dk okX12_swings 40 rfl) rfl (kx x1 μ10 (by subst eμ10 eμ7 eμ3; unfold bd_X12_swings_11; first | (simp only [if_neg h1, if_neg h6]; done) | (simp only [if_neg h1, if_neg h6]; rfl) | rfl))
/-- VotingFloorModel.swings()I -/
noncomputable def v_X12_swings  (μ : Mm) : Int32 := (let μ1 : Mm := (upI μ 49 0 0); (let μ3 : Mm := (e_X12_copies  μ1); (whl (fun s : Int32 × Mm => bd_X12_swings_11  s.1 s.2) (fun s : Int32 × Mm => (0, s.2)) FU (1, μ3)).1))
noncomputable def e_X12_swings  (μ : Mm) : Mm := (let μ1 : Mm := (upI μ 49 0 0); (let μ3 : Mm := (e_X12_copies  μ1); (whl (fun s : Int32 × Mm => bd_X12_swings_11  s.1 s.2) (fun s : Int32 × Mm => (0, s.2)) FU (1, μ3)).2))
def p_X12_swings   (μ : Mm) : Prop := (∀ μ1 : Mm, μ1 = (upI μ 49 0 0) → (p_X12_copies μ1) ∧ (∀ μ3 : Mm, μ3 = (e_X12_copies  μ1) → whP (fun s : Int32 × Mm => bd_X12_swings_11  s.1 s.2) (fun s : Int32 × Mm => sd_X12_swings_11   s.1 s.2) FU (1, μ3)))
set_option maxRecDepth 20000 in
set_option maxHeartbeats 4000000 in
theorem con_X12_swings {E : Ex} {Q : Option Value → Mm → Prop} {μ : Mm} (t : p_X12_swings   μ) (k : Q (some (.int (v_X12_swings  μ))) (e_X12_swings  μ)) : Con E 6 mX12_swings [rf E 49] μ Q := by
  refine Con_J (by decide +kernel) (Nat.le_of_ble_eq_true rfl) (fun G => ?_)
  unfold v_X12_swings e_X12_swings at k
  unfold p_X12_swings at t
  refine J_sub (ls' := [(0, rf E 49)]) [0] rfl ?_
  refine J_aload_n (dk okX12_swings 0 rfl) 0 rfl rfl ?_
  refine J_iconst (v := 0) (dk okX12_swings 1 rfl) (by decide) ?_
  refine J_put (dk okX12_swings 2 rfl) kpX12_3 ds_49 rfl rfl rfl ?_
  refine J_nm (fun μ1 eμ1 => ?_)
  have t := t μ1 eμ1
  refine J_aload_n (dk okX12_swings 3 rfl) 0 rfl rfl ?_
  obtain ⟨s2, t⟩ := t
  refine J_callVv (As := []) (dk okX12_swings 4 rfl) ds_49 rfl vkX12_copies lkX12_346 rfl rfl (Nat.le_of_ble_eq_true rfl) (by decide) (con_X12_copies s2 ⟨rfl, ?_⟩)
  refine J_nm (fun μ3 eμ3 => ?_)
  have t := t μ3 eμ3
  refine J_iconst (v := 1) (dk okX12_swings 5 rfl) (by decide) ?_
  refine J_istore_n (ls' := [(1, _), (0, _)]) (dk okX12_swings 6 rfl) rfl (by decide) rfl ?_
  have s4 := t
  refine J_sub (ls' := [(0, _), (1, _)]) [1, 0] rfl ?_
  subst eμ3 eμ1
  exact lw_X12_swings_11  s4 k
noncomputable def bd_X12_years_33  (x2 : Int32) (x3 : Int32) (x4 : Int32) (μ : Mm) : (Int32 × Int32 × Int32 × Mm) ⊕ (Int32 × Mm) := (if x2 ≤ x4 then .inr (x3, μ) else (let μ3 : Mm := (e_X12_draws 4 μ); (let μ16 : Mm := (if 2 ≤ (v_X12_draws 4 μ) then (if (μ3.1 49 3) ≤ 0 then μ3 else (if (v_X12_draws 4 μ) = 2 then ((upI ((e_X12_draws 10 ((e_X12_draws (μ3.1 49 3) μ3)))) 53 (Int32.toNatClampNeg (14 + (v_X12_draws (μ3.1 49 3) μ3))) (v_X12_draws 10 ((e_X12_draws (μ3.1 49 3) μ3))))) else ((e_X12_stepsOff 53 (v_X12_draws (μ3.1 49 3) μ3) ((e_X12_draws (μ3.1 49 3) μ3)))) : Mm) : Mm) else ((e_X12_minuteGoes 53 μ3)) : Mm); .inl (x2, (x3 + (v_X12_flag (if (v_X12_moment 53 μ16) ≤ 0 then 0 else 1 : Int32))), (x4 + 1), μ16))))
def sd_X12_years_33   (x2 : Int32) (x3 : Int32) (x4 : Int32) (μ : Mm) : Prop := (¬ (x2 ≤ x4) → (p_X12_draws 4 μ) ∧ (∀ μ3 : Mm, μ3 = (e_X12_draws 4 μ) → (((2 ≤ (v_X12_draws 4 μ) → (¬ ((μ3.1 49 3) ≤ 0) → (p_X12_draws (μ3.1 49 3) μ3) ∧ (∀ μ7 : Mm, μ7 = (e_X12_draws (μ3.1 49 3) μ3) → ((v_X12_draws 4 μ) = 2 → (p_X12_draws 10 μ7) ∧ (∀ μ10 : Mm, μ10 = (e_X12_draws 10 μ7) → vp_in (14 + (v_X12_draws (μ3.1 49 3) μ3)) 24))))) ∧ (¬ (2 ≤ (v_X12_draws 4 μ)) → p_X12_minuteGoes 53 μ3))) ∧ (∀ μ16 : Mm, μ16 = (if 2 ≤ (v_X12_draws 4 μ) then (if (μ3.1 49 3) ≤ 0 then μ3 else (if (v_X12_draws 4 μ) = 2 then ((upI ((e_X12_draws 10 ((e_X12_draws (μ3.1 49 3) μ3)))) 53 (Int32.toNatClampNeg (14 + (v_X12_draws (μ3.1 49 3) μ3))) (v_X12_draws 10 ((e_X12_draws (μ3.1 49 3) μ3))))) else ((e_X12_stepsOff 53 (v_X12_draws (μ3.1 49 3) μ3) ((e_X12_draws (μ3.1 49 3) μ3)))) : Mm) : Mm) else ((e_X12_minuteGoes 53 μ3)) : Mm) → p_X12_moment 53 μ16)))
set_option maxRecDepth 20000 in
set_option maxHeartbeats 4000000 in
theorem lw_X12_years_33 {E : Ex} {G : Gx} {Q : Option Value → Mm → Prop} {x2 : Int32} {x3 : Int32} {x4 : Int32} {μ : Mm}  (p : whP (fun s : Int32 × Int32 × Int32 × Mm => bd_X12_years_33  s.1 s.2.1 s.2.2.1 s.2.2.2) (fun s : Int32 × Int32 × Int32 × Mm => sd_X12_years_33   s.1 s.2.1 s.2.2.1 s.2.2.2) FU (x2, x3, x4, μ)) (k : ∀ r : Int32 × Mm, r = whl (fun s : Int32 × Int32 × Int32 × Mm => bd_X12_years_33  s.1 s.2.1 s.2.2.1 s.2.2.2) (fun s : Int32 × Int32 × Int32 × Mm => (0, s.2.2.2)) FU (x2, x3, x4, μ) → J E G 6 mX12_years Q 145 [(0, rf E 49), (3, .int (r.1))] [] (r.2)) : J E G 6 mX12_years Q 33 [(0, rf E 49), (2, .int x2), (3, .int x3), (4, .int x4)] [] μ := by
  refine J_whl (f := (fun s : Int32 × Int32 × Int32 × Mm => bd_X12_years_33  s.1 s.2.1 s.2.2.1 s.2.2.2)) (dd := (fun s : Int32 × Int32 × Int32 × Mm => (0, s.2.2.2))) (sd := (fun s : Int32 × Int32 × Int32 × Mm => sd_X12_years_33   s.1 s.2.1 s.2.2.1 s.2.2.2)) (P := fun s : Int32 × Int32 × Int32 × Mm => J E G 6 mX12_years Q 33 [(0, rf E 49), (2, .int (s.1)), (3, .int (s.2.1)), (4, .int (s.2.2.1))] [] (s.2.2.2)) (R := fun r : Int32 × Mm => J E G 6 mX12_years Q 145 [(0, rf E 49), (3, .int (r.1))] [] (r.2)) ?_ FU (x2, x3, x4, μ) p (k _ rfl)
  clear p k
  rintro ⟨x2, x3, x4, μ⟩ t k1 k2
  dsimp only [sd_X12_years_33] at t
  have kb : ∀ (y2 : Int32) (y3 : Int32) (y4 : Int32) (μ9 : Mm), bd_X12_years_33  x2 x3 x4 μ = .inl (y2, y3, y4, μ9) → J E G 6 mX12_years Q 33 [(0, rf E 49), (2, .int y2), (3, .int y3), (4, .int y4)] [] μ9 := fun y2 y3 y4 μ9 h => k1 (y2, y3, y4, μ9) h
  have kx : ∀ (y3 : Int32) (μ9 : Mm), bd_X12_years_33  x2 x3 x4 μ = .inr (y3, μ9) → J E G 6 mX12_years Q 145 [(0, rf E 49), (3, .int y3)] [] μ9 := fun y3 μ9 h => k2 (y3, μ9) h
  clear k1 k2
  refine J_iload (dk okX12_years 20 rfl) 3 rfl ?_
  refine J_iload_n (dk okX12_years 21 rfl) 1 rfl rfl ?_
  refine J_icmp_ge (tgt := 145) (dk okX12_years 22 rfl) (by decide) (fun h1 => ?_) (fun h1 => ?_)
  · exact J_sub [0, 2] rfl (kx x3 μ (by unfold bd_X12_years_33; first | (simp only [if_pos h1]; done) | (simp only [if_pos h1]; rfl) | rfl))
  · have t := t h1
    refine J_aload_n (dk okX12_years 23 rfl) 0 rfl rfl ?_
    refine J_iconst (v := 4) (dk okX12_years 24 rfl) (by decide) ?_
    obtain ⟨s2, t⟩ := t
    refine J_callVi (As := [.int 4]) (dk okX12_years 25 rfl) ds_49 rfl vkX12_draws lkX12_442 rfl rfl (Nat.le_of_ble_eq_true rfl) (by decide) (con_X12_draws s2 ⟨_, rfl, ?_⟩)
    refine J_nm (fun μ3 eμ3 => ?_)
    have t := t μ3 eμ3
    refine J_istore (ls' := [(5, _), (0, _), (2, _), (3, _), (4, _)]) (dk okX12_years 26 rfl) (by decide) rfl ?_
    refine J_iload (dk okX12_years 27 rfl) 0 rfl ?_
    refine J_iconst (v := 2) (dk okX12_years 28 rfl) (by decide) ?_
    obtain ⟨t9, t⟩ := t
    have K20 : J E G 6 mX12_years Q 117 [(0, rf E 49), (2, .int x2), (3, .int x3), (4, .int x4)] [] (if 2 ≤ (v_X12_draws 4 μ) then (if (μ3.1 49 3) ≤ 0 then μ3 else (if (v_X12_draws 4 μ) = 2 then ((upI ((e_X12_draws 10 ((e_X12_draws (μ3.1 49 3) μ3)))) 53 (Int32.toNatClampNeg (14 + (v_X12_draws (μ3.1 49 3) μ3))) (v_X12_draws 10 ((e_X12_draws (μ3.1 49 3) μ3))))) else ((e_X12_stepsOff 53 (v_X12_draws (μ3.1 49 3) μ3) ((e_X12_draws (μ3.1 49 3) μ3)))) : Mm) : Mm) else ((e_X12_minuteGoes 53 μ3)) : Mm) := by
      refine J_nm (fun μ16 eμ16 => ?_)
      have t := t μ16 eμ16
      refine J_iload_n (dk okX12_years 63 rfl) 2 rfl rfl ?_
      refine J_aload_n (dk okX12_years 64 rfl) 0 rfl rfl ?_
      refine J_aload_n (dk okX12_years 65 rfl) 0 rfl rfl ?_
      refine J_getR (dk okX12_years 66 rfl) kfX12_35 ds_49 rfl ?_
      have s17 := t
      refine J_callVi (As := [rf E 53]) (dk okX12_years 67 rfl) ds_49 rfl vkX12_moment lkX12_275 rfl rfl (Nat.le_of_ble_eq_true rfl) (by decide) (con_X12_moment ds_53 s17 ⟨_, rfl, ?_⟩)
      have K19 : J E G 6 mX12_years Q 134 [(0, rf E 49), (2, .int x2), (4, .int x4)] [.int (if (v_X12_moment 53 μ16) ≤ 0 then 0 else 1 : Int32), .int x3] μ16 := by
        refine J_callSi (As := [.int (if (v_X12_moment 53 μ16) ≤ 0 then 0 else 1 : Int32)]) (dk okX12_years 72 rfl) skX12_flag lkX12_137 rfl rfl (Nat.le_of_ble_eq_true rfl) (by decide) (con_X12_flag  ⟨_, rfl, ?_⟩)
        refine J_iadd (dk okX12_years 73 rfl) ?_
        refine J_istore_n (ls' := [(3, _), (0, _), (2, _), (4, _)]) (dk okX12_years 74 rfl) rfl (by decide) rfl ?_
        refine J_iinc (v := (x4 + 1)) (ls' := [(4, _), (3, _), (0, _), (2, _)]) (dk okX12_years 75 rfl) 3 rfl rfl (by decide) rfl ?_
        refine J_goto (tgt := 33) (dk okX12_years 76 rfl) (by decide) ?_
        exact J_sub [2, 3, 1, 0] rfl (kb x2 (x3 + (v_X12_flag (if (v_X12_moment 53 μ16) ≤ 0 then 0 else 1 : Int32))) (x4 + 1) μ16 (by subst eμ16 eμ3; unfold bd_X12_years_33; first | (simp only [if_neg h1]; done) | (simp only [if_neg h1]; rfl) | rfl))
      refine J_if_le (tgt := 133) (dk okX12_years 68 rfl) (by decide) (fun h18 => ?_) (fun h18 => ?_)
      · refine J_iconst (v := 0) (dk okX12_years 71 rfl) (by decide) ?_
        refine J_sub (ls' := [(0, _), (2, _), (4, _)]) [0, 1, 3] rfl ?_
        (try simp only [if_pos h18] at K19 ⊢); exact K19
      · refine J_iconst (v := 1) (dk okX12_years 69 rfl) (by decide) ?_
        refine J_goto (tgt := 134) (dk okX12_years 70 rfl) (by decide) ?_
        refine J_sub (ls' := [(0, _), (2, _), (4, _)]) [0, 1, 3] rfl ?_
        (try simp only [if_neg h18] at K19 ⊢); exact K19
    have t := t9
    refine J_icmp_ge (tgt := 64) (dk okX12_years 29 rfl) (by decide) (fun h4 => ?_) (fun h4 => ?_)
    · have t := t.1 h4
      refine J_aload_n (dk okX12_years 36 rfl) 1 rfl rfl ?_
      refine J_getI (dk okX12_years 37 rfl) kfX12_111 ds_49 rfl ?_
      refine J_if_le (tgt := 117) (dk okX12_years 38 rfl) (by decide) (fun h5 => ?_) (fun h5 => ?_)
      · refine J_sub (ls' := [(0, _), (2, _), (3, _), (4, _)]) [1, 2, 3, 4] rfl ?_
        (try simp only [if_pos h4, if_pos h5] at K20 ⊢); exact K20
      · have t := t h5
        refine J_aload_n (dk okX12_years 39 rfl) 1 rfl rfl ?_
        refine J_aload_n (dk okX12_years 40 rfl) 1 rfl rfl ?_
        refine J_getI (dk okX12_years 41 rfl) kfX12_111 ds_49 rfl ?_
        obtain ⟨s6, t⟩ := t
        refine J_callVi (As := [.int (μ3.1 49 3)]) (dk okX12_years 42 rfl) ds_49 rfl vkX12_draws lkX12_442 rfl rfl (Nat.le_of_ble_eq_true rfl) (by decide) (con_X12_draws s6 ⟨_, rfl, ?_⟩)
        refine J_nm (fun μ7 eμ7 => ?_)
        have t := t μ7 eμ7
        refine J_istore (ls' := [(6, _), (5, _), (0, _), (2, _), (3, _), (4, _)]) (dk okX12_years 43 rfl) (by decide) rfl ?_
        refine J_iload (dk okX12_years 44 rfl) 1 rfl ?_
        refine J_iconst (v := 2) (dk okX12_years 45 rfl) (by decide) ?_
        refine J_icmp_ne (tgt := 106) (dk okX12_years 46 rfl) (by decide) (fun h8 => ?_) (fun h8 => ?_)
        · refine J_aload_n (dk okX12_years 57 rfl) 2 rfl rfl ?_
          refine J_aload_n (dk okX12_years 58 rfl) 2 rfl rfl ?_
          refine J_getR (dk okX12_years 59 rfl) kfX12_35 ds_49 rfl ?_
          refine J_iload (dk okX12_years 60 rfl) 0 rfl ?_
          refine J_callVi (As := [rf E 53, .int (v_X12_draws (μ3.1 49 3) μ3)]) (dk okX12_years 61 rfl) ds_49 rfl vkX12_stepsOff lkX12_324 rfl rfl (Nat.le_of_ble_eq_true rfl) (by decide) (con_X12_stepsOff ds_53 ⟨_, rfl, ?_⟩)
          refine J_nm (fun μ13 eμ13 => ?_)
          refine J_pop (dk okX12_years 62 rfl) rfl ?_
          subst eμ13 eμ7
          refine J_sub (ls' := [(0, _), (2, _), (3, _), (4, _)]) [2, 3, 4, 5] rfl ?_
          (try simp only [if_pos h4, if_neg h5, if_neg h8] at K20 ⊢); exact K20
        · have t := t h8
          refine J_aload_n (dk okX12_years 47 rfl) 2 rfl rfl ?_
          refine J_getR (dk okX12_years 48 rfl) kfX12_35 ds_49 rfl ?_
          refine J_bipush (v := 14) (dk okX12_years 49 rfl) (by decide) ?_
          refine J_iload (dk okX12_years 50 rfl) 0 rfl ?_
          refine J_iadd (dk okX12_years 51 rfl) ?_
          refine J_aload_n (dk okX12_years 52 rfl) 2 rfl rfl ?_
          refine J_bipush (v := 10) (dk okX12_years 53 rfl) (by decide) ?_
          obtain ⟨s9, t⟩ := t
          refine J_callVi (As := [.int 10]) (dk okX12_years 54 rfl) ds_49 rfl vkX12_draws lkX12_442 rfl rfl (Nat.le_of_ble_eq_true rfl) (by decide) (con_X12_draws s9 ⟨_, rfl, ?_⟩)
          refine J_nm (fun μ10 eμ10 => ?_)
          have t := t μ10 eμ10
          have s11 := t
          refine J_iast (dk okX12_years 55 rfl) ds_53 s11 ?_
          refine J_nm (fun μ12 eμ12 => ?_)
          refine J_goto (tgt := 117) (dk okX12_years 56 rfl) (by decide) ?_
          subst eμ12 eμ10 eμ7
          refine J_sub (ls' := [(0, _), (2, _), (3, _), (4, _)]) [2, 3, 4, 5] rfl ?_
          (try simp only [if_pos h4, if_neg h5, if_pos h8] at K20 ⊢); exact K20
    · have t := t.2 h4
      refine J_aload_n (dk okX12_years 30 rfl) 1 rfl rfl ?_
      refine J_aload_n (dk okX12_years 31 rfl) 1 rfl rfl ?_
      refine J_getR (dk okX12_years 32 rfl) kfX12_35 ds_49 rfl ?_
      have s14 := t
      refine J_callVi (As := [rf E 53]) (dk okX12_years 33 rfl) ds_49 rfl vkX12_minuteGoes lkX12_290 rfl rfl (Nat.le_of_ble_eq_true rfl) (by decide) (con_X12_minuteGoes ds_53 s14 ⟨_, rfl, ?_⟩)
      refine J_nm (fun μ15 eμ15 => ?_)
      refine J_pop (dk okX12_years 34 rfl) rfl ?_
      refine J_goto (tgt := 117) (dk okX12_years 35 rfl) (by decide) ?_
      subst eμ15
      refine J_sub (ls' := [(0, _), (2, _), (3, _), (4, _)]) [1, 2, 3, 4] rfl ?_
      (try simp only [if_neg h4] at K20 ⊢); exact K20
/-- VotingFloorModel.years(II)I -/
noncomputable def v_X12_years (p0 : Int32) (p1 : Int32) (μ : Mm) : Int32 := (let μ1 : Mm := (upI μ 49 0 0); (if (v_X12_in (Int32.toInt64 p1) 1 60) = 0 then (-1) else (let μ3 : Mm := (upI μ1 49 41 p0); (let μ5 : Mm := (e_X12_copies  μ3); (let r7 : Int32 × Mm := whl (fun s : Int32 × Int32 × Int32 × Mm => bd_X12_years_33  s.1 s.2.1 s.2.2.1 s.2.2.2) (fun s : Int32 × Int32 × Int32 × Mm => (0, s.2.2.2)) FU (p1, 0, 0, μ5); (let μ8 : Mm := (upI (r7.2) 49 1 0); (let μ10 : Mm := (e_X12_enters (Int32.toInt64 (r7.1)) μ8); (let μ12 : Mm := (e_X12_enters (Int32.toInt64 (v_X12_here 53 μ10)) μ10); (2000 + (v_X12_moment 53 μ12))))))))))
noncomputable def e_X12_years (p0 : Int32) (p1 : Int32) (μ : Mm) : Mm := (let μ1 : Mm := (upI μ 49 0 0); (if (v_X12_in (Int32.toInt64 p1) 1 60) = 0 then μ1 else (let μ3 : Mm := (upI μ1 49 41 p0); (let μ5 : Mm := (e_X12_copies  μ3); (let r7 : Int32 × Mm := whl (fun s : Int32 × Int32 × Int32 × Mm => bd_X12_years_33  s.1 s.2.1 s.2.2.1 s.2.2.2) (fun s : Int32 × Int32 × Int32 × Mm => (0, s.2.2.2)) FU (p1, 0, 0, μ5); (let μ8 : Mm := (upI (r7.2) 49 1 0); (let μ10 : Mm := (e_X12_enters (Int32.toInt64 (r7.1)) μ8); (let μ12 : Mm := (e_X12_enters (Int32.toInt64 (v_X12_here 53 μ10)) μ10); μ12))))))))
def p_X12_years (p0 : Int32) (p1 : Int32)  (μ : Mm) : Prop := (∀ μ1 : Mm, μ1 = (upI μ 49 0 0) → (¬ ((v_X12_in (Int32.toInt64 p1) 1 60) = 0) → (∀ μ3 : Mm, μ3 = (upI μ1 49 41 p0) → (p_X12_copies μ3) ∧ (∀ μ5 : Mm, μ5 = (e_X12_copies  μ3) → (whP (fun s : Int32 × Int32 × Int32 × Mm => bd_X12_years_33  s.1 s.2.1 s.2.2.1 s.2.2.2) (fun s : Int32 × Int32 × Int32 × Mm => sd_X12_years_33   s.1 s.2.1 s.2.2.1 s.2.2.2) FU (p1, 0, 0, μ5)) ∧ (∀ r7 : Int32 × Mm, r7 = whl (fun s : Int32 × Int32 × Int32 × Mm => bd_X12_years_33  s.1 s.2.1 s.2.2.1 s.2.2.2) (fun s : Int32 × Int32 × Int32 × Mm => (0, s.2.2.2)) FU (p1, 0, 0, μ5) → (∀ μ8 : Mm, μ8 = (upI (r7.2) 49 1 0) → (p_X12_enters (Int32.toInt64 (r7.1)) μ8) ∧ (∀ μ10 : Mm, μ10 = (e_X12_enters (Int32.toInt64 (r7.1)) μ8) → (p_X12_enters (Int32.toInt64 (v_X12_here 53 μ10)) μ10) ∧ (∀ μ12 : Mm, μ12 = (e_X12_enters (Int32.toInt64 (v_X12_here 53 μ10)) μ10) → p_X12_moment 53 μ12))))))))
set_option maxRecDepth 20000 in
set_option maxHeartbeats 4000000 in
theorem con_X12_years {E : Ex} {Q : Option Value → Mm → Prop} {p0 : Int32} {p1 : Int32} {μ : Mm} (t : p_X12_years p0 p1  μ) (k : Q (some (.int (v_X12_years p0 p1 μ))) (e_X12_years p0 p1 μ)) : Con E 6 mX12_years [rf E 49, .int p0, .int p1] μ Q := by
  refine Con_J (by decide +kernel) (Nat.le_of_ble_eq_true rfl) (fun G => ?_)
  unfold v_X12_years e_X12_years at k
  unfold p_X12_years at t
  refine J_sub (ls' := [(0, rf E 49), (1, .int p0), (2, .int p1)]) [0, 1, 2] rfl ?_
  refine J_aload_n (dk okX12_years 0 rfl) 0 rfl rfl ?_
  refine J_iconst (v := 0) (dk okX12_years 1 rfl) (by decide) ?_
  refine J_put (dk okX12_years 2 rfl) kpX12_3 ds_49 rfl rfl rfl ?_
  refine J_nm (fun μ1 eμ1 => ?_)
  have t := t μ1 eμ1
  refine J_iload_n (dk okX12_years 3 rfl) 2 rfl rfl ?_
  refine J_i2l (dk okX12_years 4 rfl) ?_
  refine J_lconst (v := 1) (dk okX12_years 5 rfl) (by decide) ?_
  refine J_ldc2 (v := 60) (dk okX12_years 6 rfl) kcX12_304 ?_
  refine J_callSi (As := [.long (Int32.toInt64 p1), .long 1, .long 60]) (dk okX12_years 7 rfl) skX12_in lkX12_114 rfl rfl (Nat.le_of_ble_eq_true rfl) (by decide) (con_X12_in  ⟨_, rfl, ?_⟩)
  refine J_if_ne (tgt := 19) (dk okX12_years 8 rfl) (by decide) (fun h2 => ?_) (fun h2 => ?_)
  · have t := t h2
    refine J_aload_n (dk okX12_years 11 rfl) 0 rfl rfl ?_
    refine J_iload_n (dk okX12_years 12 rfl) 1 rfl rfl ?_
    refine J_put (dk okX12_years 13 rfl) kpX12_438 ds_49 rfl rfl rfl ?_
    refine J_nm (fun μ3 eμ3 => ?_)
    have t := t μ3 eμ3
    refine J_aload_n (dk okX12_years 14 rfl) 0 rfl rfl ?_
    obtain ⟨s4, t⟩ := t
    refine J_callVv (As := []) (dk okX12_years 15 rfl) ds_49 rfl vkX12_copies lkX12_346 rfl rfl (Nat.le_of_ble_eq_true rfl) (by decide) (con_X12_copies s4 ⟨rfl, ?_⟩)
    refine J_nm (fun μ5 eμ5 => ?_)
    have t := t μ5 eμ5
    refine J_iconst (v := 0) (dk okX12_years 16 rfl) (by decide) ?_
    refine J_istore_n (ls' := [(3, _), (0, _), (1, _), (2, _)]) (dk okX12_years 17 rfl) rfl (by decide) rfl ?_
    refine J_iconst (v := 0) (dk okX12_years 18 rfl) (by decide) ?_
    refine J_istore (ls' := [(4, _), (3, _), (0, _), (1, _), (2, _)]) (dk okX12_years 19 rfl) (by decide) rfl ?_
    obtain ⟨s6, t⟩ := t
    refine J_sub (ls' := [(0, _), (2, _), (3, _), (4, _)]) [2, 4, 1, 0] rfl ?_
    refine lw_X12_years_33  s6 (fun r7 er7 => ?_)
    have t := t r7 er7
    refine J_aload_n (dk okX12_years 77 rfl) 0 rfl rfl ?_
    refine J_iconst (v := 0) (dk okX12_years 78 rfl) (by decide) ?_
    refine J_put (dk okX12_years 79 rfl) kpX12_15 ds_49 rfl rfl rfl ?_
    refine J_nm (fun μ8 eμ8 => ?_)
    have t := t μ8 eμ8
    refine J_aload_n (dk okX12_years 80 rfl) 0 rfl rfl ?_
    refine J_iload_n (dk okX12_years 81 rfl) 1 rfl rfl ?_
    refine J_i2l (dk okX12_years 82 rfl) ?_
    obtain ⟨s9, t⟩ := t
    refine J_callVv (As := [.long (Int32.toInt64 (r7.1))]) (dk okX12_years 83 rfl) ds_49 rfl vkX12_enters lkX12_18 rfl rfl (Nat.le_of_ble_eq_true rfl) (by decide) (con_X12_enters s9 ⟨rfl, ?_⟩)
    refine J_nm (fun μ10 eμ10 => ?_)
    have t := t μ10 eμ10
    refine J_aload_n (dk okX12_years 84 rfl) 0 rfl rfl ?_
    refine J_aload_n (dk okX12_years 85 rfl) 0 rfl rfl ?_
    refine J_aload_n (dk okX12_years 86 rfl) 0 rfl rfl ?_
    refine J_getR (dk okX12_years 87 rfl) kfX12_35 ds_49 rfl ?_
    refine J_callVi (As := [rf E 53]) (dk okX12_years 88 rfl) ds_49 rfl vkX12_here lkX12_122 rfl rfl (Nat.le_of_ble_eq_true rfl) (by decide) (con_X12_here ds_53 ⟨_, rfl, ?_⟩)
    refine J_i2l (dk okX12_years 89 rfl) ?_
    obtain ⟨s11, t⟩ := t
    refine J_callVv (As := [.long (Int32.toInt64 (v_X12_here 53 μ10))]) (dk okX12_years 90 rfl) ds_49 rfl vkX12_enters lkX12_18 rfl rfl (Nat.le_of_ble_eq_true rfl) (by decide) (con_X12_enters s11 ⟨rfl, ?_⟩)
    refine J_nm (fun μ12 eμ12 => ?_)
    have t := t μ12 eμ12
    refine J_sipush (v := 2000) (dk okX12_years 91 rfl) (by decide) ?_
    refine J_aload_n (dk okX12_years 92 rfl) 0 rfl rfl ?_
    refine J_aload_n (dk okX12_years 93 rfl) 0 rfl rfl ?_
    refine J_getR (dk okX12_years 94 rfl) kfX12_35 ds_49 rfl ?_
    have s13 := t
    refine J_callVi (As := [rf E 53]) (dk okX12_years 95 rfl) ds_49 rfl vkX12_moment lkX12_275 rfl rfl (Nat.le_of_ble_eq_true rfl) (by decide) (con_X12_moment ds_53 s13 ⟨_, rfl, ?_⟩)
    refine J_iadd (dk okX12_years 96 rfl) ?_
    subst eμ12 eμ10 eμ8 er7 eμ5 eμ3 eμ1
    (try simp only [if_neg h2] at k ⊢)
    exact J_iret (dk okX12_years 97 rfl) rfl k
  · refine J_iconst (v := (-1)) (dk okX12_years 9 rfl) (by decide) ?_
    subst eμ1
    (try simp only [if_pos h2] at k ⊢)
    exact J_iret (dk okX12_years 10 rfl) rfl k
noncomputable def bd_X5_read_29 (b : Nat) (x2 : Int32) (x3 : Int32) (μ : Mm) : (Int32 × Int32 × Mm) ⊕ (Int32 × Mm) := (if x2 ≤ x3 then (if x2 < (μ.1 25 1) then .inr (x2, μ) else (if (μ.1 b 5) = 0 then (if (μ.1 b 6) ≤ 0 then (let μ6 : Mm := (e_X5_emitWaiting b 1 μ); .inr ((-1), μ6)) else .inr (x2, μ)) else .inr (x2, μ))) else (let μ13 : Mm := (if (μ.1 b 5) = 0 then ((e_X5_takeBehindThing b (v_X9_at x3 μ) μ)) else ((e_X5_takeThing b (v_X9_at x3 μ) μ)) : Mm); (if (if (μ.1 b 5) = 0 then (v_X5_takeBehindThing b (v_X9_at x3 μ) μ) else (v_X5_takeThing b (v_X9_at x3 μ) μ) : Int32) = 0 then .inr (x3, μ13) else .inl (x2, (x3 + 1), μ13))))
def sd_X5_read_29 (b : Nat)  (x2 : Int32) (x3 : Int32) (μ : Mm) : Prop := ((x2 ≤ x3 → (¬ (x2 < (μ.1 25 1)) → ((μ.1 b 5) = 0 → ((μ.1 b 6) ≤ 0 → p_X5_emitWaiting b 1 μ)))) ∧ (¬ (x2 ≤ x3) → (p_X9_at x3 μ) ∧ (((μ.1 b 5) = 0 → p_X5_takeBehindThing b (v_X9_at x3 μ) μ) ∧ (¬ ((μ.1 b 5) = 0) → p_X5_takeThing b (v_X9_at x3 μ) μ))))
set_option maxRecDepth 20000 in
set_option maxHeartbeats 4000000 in
theorem lw_X5_read_29 {E : Ex} {G : Gx} {Q : Option Value → Mm → Prop} {b : Nat} {x2 : Int32} {x3 : Int32} {μ : Mm} (hb : RuleAt b) (p : whP (fun s : Int32 × Int32 × Mm => bd_X5_read_29 b s.1 s.2.1 s.2.2) (fun s : Int32 × Int32 × Mm => sd_X5_read_29 b  s.1 s.2.1 s.2.2) FU (x2, x3, μ)) (k : Q (some (.int (whl (fun s : Int32 × Int32 × Mm => bd_X5_read_29 b s.1 s.2.1 s.2.2) (fun s : Int32 × Int32 × Mm => (0, s.2.2)) FU (x2, x3, μ)).1)) (whl (fun s : Int32 × Int32 × Mm => bd_X5_read_29 b s.1 s.2.1 s.2.2) (fun s : Int32 × Int32 × Mm => (0, s.2.2)) FU (x2, x3, μ)).2) : J E G 6 mX5_read Q 29 [(0, rf E b), (1, rf E 25), (2, .int x2), (3, .int x3)] [] μ := by
  refine J_whl (f := (fun s : Int32 × Int32 × Mm => bd_X5_read_29 b s.1 s.2.1 s.2.2)) (dd := (fun s : Int32 × Int32 × Mm => (0, s.2.2))) (sd := (fun s : Int32 × Int32 × Mm => sd_X5_read_29 b  s.1 s.2.1 s.2.2)) (P := fun s : Int32 × Int32 × Mm => J E G 6 mX5_read Q 29 [(0, rf E b), (1, rf E 25), (2, .int (s.1)), (3, .int (s.2.1))] [] (s.2.2)) (R := fun r : Int32 × Mm => Q (some (.int (r).1)) (r).2) ?_ FU (x2, x3, μ) p k
  clear p k
  rintro ⟨x2, x3, μ⟩ t k1 k2
  dsimp only [sd_X5_read_29] at t
  have kb : ∀ (y2 : Int32) (y3 : Int32) (μ9 : Mm), bd_X5_read_29 b x2 x3 μ = .inl (y2, y3, μ9) → J E G 6 mX5_read Q 29 [(0, rf E b), (1, rf E 25), (2, .int y2), (3, .int y3)] [] μ9 := fun y2 y3 μ9 h => k1 (y2, y3, μ9) h
  have kx : ∀ (y : Int32) (μ9 : Mm), bd_X5_read_29 b x2 x3 μ = .inr (y, μ9) → Q (some (.int y)) μ9 := fun y μ9 h => k2 (y, μ9) h
  clear k1 k2
  refine J_iload_n (dk okX5_read 16 rfl) 3 rfl rfl ?_
  refine J_iload_n (dk okX5_read 17 rfl) 2 rfl rfl ?_
  refine J_icmp_ge (tgt := 78) (dk okX5_read 18 rfl) (by decide) (fun h1 => ?_) (fun h1 => ?_)
  · have t := t.1 h1
    refine J_aload_n (dk okX5_read 40 rfl) 1 rfl rfl ?_
    refine J_getI (dk okX5_read 41 rfl) kfX5_51 ds_25 rfl ?_
    refine J_iload_n (dk okX5_read 42 rfl) 2 rfl rfl ?_
    refine J_icmp_gt (tgt := 100) (dk okX5_read 43 rfl) (by decide) (fun h2 => ?_) (fun h2 => ?_)
    · refine J_iload_n (dk okX5_read 50 rfl) 2 rfl rfl ?_
      exact J_iret (dk okX5_read 51 rfl) rfl (kx x2 μ (by unfold bd_X5_read_29; first | (simp only [if_pos h1, if_pos h2]; done) | (simp only [if_pos h1, if_pos h2]; rfl) | rfl))
    · have t := t h2
      refine J_aload_n (dk okX5_read 44 rfl) 0 rfl rfl ?_
      refine J_getI (dk okX5_read 45 rfl) kfX5_33 hb.1 rfl ?_
      refine J_if_ne (tgt := 100) (dk okX5_read 46 rfl) (by decide) (fun h3 => ?_) (fun h3 => ?_)
      · refine J_iload_n (dk okX5_read 50 rfl) 2 rfl rfl ?_
        exact J_iret (dk okX5_read 51 rfl) rfl (kx x2 μ (by unfold bd_X5_read_29; first | (simp only [if_pos h1, if_neg h2, if_neg h3]; done) | (simp only [if_pos h1, if_neg h2, if_neg h3]; rfl) | rfl))
      · have t := t h3
        refine J_aload_n (dk okX5_read 47 rfl) 0 rfl rfl ?_
        refine J_getI (dk okX5_read 48 rfl) kfX5_36 hb.1 rfl ?_
        refine J_if_le (tgt := 102) (dk okX5_read 49 rfl) (by decide) (fun h4 => ?_) (fun h4 => ?_)
        · have t := t h4
          refine J_aload_n (dk okX5_read 52 rfl) 0 rfl rfl ?_
          refine J_iconst (v := 1) (dk okX5_read 53 rfl) (by decide) ?_
          have s5 := t
          refine J_callVv (As := [.int 1]) (dk okX5_read 54 rfl) hb.1 rfl vkX5_emitWaiting lkX5_71 rfl rfl (Nat.le_of_ble_eq_true rfl) (by decide) (con_X5_emitWaiting hb s5 ⟨rfl, ?_⟩)
          refine J_nm (fun μ6 eμ6 => ?_)
          refine J_iconst (v := (-1)) (dk okX5_read 55 rfl) (by decide) ?_
          exact J_iret (dk okX5_read 56 rfl) rfl (kx (-1) μ6 (by subst eμ6; unfold bd_X5_read_29; first | (simp only [if_pos h1, if_neg h2, if_pos h3, if_pos h4]; done) | (simp only [if_pos h1, if_neg h2, if_pos h3, if_pos h4]; rfl) | rfl))
        · refine J_iload_n (dk okX5_read 50 rfl) 2 rfl rfl ?_
          exact J_iret (dk okX5_read 51 rfl) rfl (kx x2 μ (by unfold bd_X5_read_29; first | (simp only [if_pos h1, if_neg h2, if_pos h3, if_neg h4]; done) | (simp only [if_pos h1, if_neg h2, if_pos h3, if_neg h4]; rfl) | rfl))
  · have t := t.2 h1
    refine J_aload_n (dk okX5_read 19 rfl) 1 rfl rfl ?_
    refine J_iload_n (dk okX5_read 20 rfl) 3 rfl rfl ?_
    obtain ⟨s7, t⟩ := t
    refine J_callVi (As := [.int x3]) (dk okX5_read 21 rfl) ds_25 rfl vkX9_at lkX5_60 rfl rfl (Nat.le_of_ble_eq_true rfl) (by decide) (con_X9_at s7 ⟨_, rfl, ?_⟩)
    refine J_istore (ls' := [(4, _), (0, _), (1, _), (2, _), (3, _)]) (dk okX5_read 22 rfl) (by decide) rfl ?_
    refine J_aload_n (dk okX5_read 23 rfl) 1 rfl rfl ?_
    refine J_getI (dk okX5_read 24 rfl) kfX5_33 hb.1 rfl ?_
    have K15 : J E G 6 mX5_read Q 63 [(0, rf E b), (1, rf E 25), (2, .int x2), (3, .int x3)] [.int (if (μ.1 b 5) = 0 then (v_X5_takeBehindThing b (v_X9_at x3 μ) μ) else (v_X5_takeThing b (v_X9_at x3 μ) μ) : Int32)] (if (μ.1 b 5) = 0 then ((e_X5_takeBehindThing b (v_X9_at x3 μ) μ)) else ((e_X5_takeThing b (v_X9_at x3 μ) μ)) : Mm) := by
      refine J_nm (fun μ13 eμ13 => ?_)
      refine J_istore (ls' := [(5, _), (0, _), (1, _), (2, _), (3, _)]) (dk okX5_read 33 rfl) (by decide) rfl ?_
      refine J_iload (dk okX5_read 34 rfl) 0 rfl ?_
      refine J_if_ne (tgt := 72) (dk okX5_read 35 rfl) (by decide) (fun h14 => ?_) (fun h14 => ?_)
      · refine J_iinc (v := (x3 + 1)) (ls' := [(3, _), (5, _), (0, _), (1, _), (2, _)]) (dk okX5_read 38 rfl) 4 rfl rfl (by decide) rfl ?_
        refine J_goto (tgt := 29) (dk okX5_read 39 rfl) (by decide) ?_
        exact J_sub [2, 3, 4, 0] rfl (kb x2 (x3 + 1) μ13 (by subst eμ13; unfold bd_X5_read_29; first | (simp only [if_neg h1, if_neg h14]; done) | (simp only [if_neg h1, if_neg h14]; rfl) | rfl))
      · refine J_iload_n (dk okX5_read 36 rfl) 4 rfl rfl ?_
        exact J_iret (dk okX5_read 37 rfl) rfl (kx x3 μ13 (by subst eμ13; unfold bd_X5_read_29; first | (simp only [if_neg h1, if_pos h14]; done) | (simp only [if_neg h1, if_pos h14]; rfl) | rfl))
    refine J_if_eq (tgt := 57) (dk okX5_read 25 rfl) (by decide) (fun h8 => ?_) (fun h8 => ?_)
    · have t := t.1 h8
      refine J_aload_n (dk okX5_read 30 rfl) 1 rfl rfl ?_
      refine J_iload (dk okX5_read 31 rfl) 0 rfl ?_
      have s9 := t
      refine J_callVi (As := [.int (v_X9_at x3 μ)]) (dk okX5_read 32 rfl) hb.1 rfl vkX5_takeBehindThing lkX5_68 rfl rfl (Nat.le_of_ble_eq_true rfl) (by decide) (con_X5_takeBehindThing hb s9 ⟨_, rfl, ?_⟩)
      refine J_nm (fun μ10 eμ10 => ?_)
      subst eμ10
      refine J_sub (ls' := [(0, _), (1, _), (2, _), (3, _)]) [1, 2, 3, 4] rfl ?_
      (try simp only [if_pos h8] at K15 ⊢); exact K15
    · have t := t.2 h8
      refine J_aload_n (dk okX5_read 26 rfl) 1 rfl rfl ?_
      refine J_iload (dk okX5_read 27 rfl) 0 rfl ?_
      have s11 := t
      refine J_callVi (As := [.int (v_X9_at x3 μ)]) (dk okX5_read 28 rfl) hb.1 rfl vkX5_takeThing lkX5_64 rfl rfl (Nat.le_of_ble_eq_true rfl) (by decide) (con_X5_takeThing hb s11 ⟨_, rfl, ?_⟩)
      refine J_nm (fun μ12 eμ12 => ?_)
      refine J_goto (tgt := 63) (dk okX5_read 29 rfl) (by decide) ?_
      subst eμ12
      refine J_sub (ls' := [(0, _), (1, _), (2, _), (3, _)]) [1, 2, 3, 4] rfl ?_
      (try simp only [if_neg h8] at K15 ⊢); exact K15
/-- VotingFloor$Rule.read(LVotingFloor$Text;)I -/
noncomputable def v_X5_read (b : Nat) (μ : Mm) : Int32 := (let μ1 : Mm := (e_X5_startReading b μ); (if (μ1.1 25 1) = 0 then (-1) else (whl (fun s : Int32 × Int32 × Mm => bd_X5_read_29 b s.1 s.2.1 s.2.2) (fun s : Int32 × Int32 × Mm => (0, s.2.2)) FU ((if 40 < (μ1.1 25 1) then 40 else (μ1.1 25 1)), 0, μ1)).1))
noncomputable def e_X5_read (b : Nat) (μ : Mm) : Mm := (let μ1 : Mm := (e_X5_startReading b μ); (if (μ1.1 25 1) = 0 then (let μ4 : Mm := (e_X5_becomeNone b μ1); μ4) else (whl (fun s : Int32 × Int32 × Mm => bd_X5_read_29 b s.1 s.2.1 s.2.2) (fun s : Int32 × Int32 × Mm => (0, s.2.2)) FU ((if 40 < (μ1.1 25 1) then 40 else (μ1.1 25 1)), 0, μ1)).2))
def p_X5_read (b : Nat)  (μ : Mm) : Prop := (∀ μ1 : Mm, μ1 = (e_X5_startReading b μ) → (((μ1.1 25 1) = 0 → p_X5_becomeNone b μ1) ∧ (¬ ((μ1.1 25 1) = 0) → whP (fun s : Int32 × Int32 × Mm => bd_X5_read_29 b s.1 s.2.1 s.2.2) (fun s : Int32 × Int32 × Mm => sd_X5_read_29 b  s.1 s.2.1 s.2.2) FU ((if 40 < (μ1.1 25 1) then 40 else (μ1.1 25 1)), 0, μ1))))
set_option maxRecDepth 20000 in
set_option maxHeartbeats 4000000 in
theorem con_X5_read {E : Ex} {Q : Option Value → Mm → Prop} {b : Nat} {μ : Mm} (hb : RuleAt b) (t : p_X5_read b  μ) (k : Q (some (.int (v_X5_read b μ))) (e_X5_read b μ)) : Con E 6 mX5_read [rf E b, rf E 25] μ Q := by
  refine Con_J (by decide +kernel) (Nat.le_of_ble_eq_true rfl) (fun G => ?_)
  unfold v_X5_read e_X5_read at k
  unfold p_X5_read at t
  refine J_sub (ls' := [(0, rf E b), (1, rf E 25)]) [0, 1] rfl ?_
  refine J_aload_n (dk okX5_read 0 rfl) 0 rfl rfl ?_
  refine J_callVv (As := []) (dk okX5_read 1 rfl) hb.1 rfl vkX5_startReading lkX5_48 rfl rfl (Nat.le_of_ble_eq_true rfl) (by decide) (con_X5_startReading hb ⟨rfl, ?_⟩)
  refine J_nm (fun μ1 eμ1 => ?_)
  have t := t μ1 eμ1
  refine J_aload_n (dk okX5_read 2 rfl) 1 rfl rfl ?_
  refine J_getI (dk okX5_read 3 rfl) kfX5_51 ds_25 rfl ?_
  refine J_if_ne (tgt := 17) (dk okX5_read 4 rfl) (by decide) (fun h2 => ?_) (fun h2 => ?_)
  · have t := t.2 h2
    refine J_aload_n (dk okX5_read 9 rfl) 1 rfl rfl ?_
    refine J_getI (dk okX5_read 10 rfl) kfX5_51 ds_25 rfl ?_
    refine J_bipush (v := 40) (dk okX5_read 11 rfl) (by decide) ?_
    refine J_mmin (dk okX5_read 12 rfl) lkX5_54 mk_min_s mk_Math mk_min_c (by decide) (Nat.le_of_ble_eq_true rfl) ?_
    refine J_istore_n (ls' := [(2, _), (0, _), (1, _)]) (dk okX5_read 13 rfl) rfl (by decide) rfl ?_
    refine J_iconst (v := 0) (dk okX5_read 14 rfl) (by decide) ?_
    refine J_istore_n (ls' := [(3, _), (2, _), (0, _), (1, _)]) (dk okX5_read 15 rfl) rfl (by decide) rfl ?_
    have s5 := t
    refine J_sub (ls' := [(0, _), (1, _), (2, _), (3, _)]) [2, 3, 1, 0] rfl ?_
    subst eμ1
    (try simp only [if_neg h2] at k ⊢)
    exact lw_X5_read_29 hb s5 k
  · have t := t.1 h2
    refine J_aload_n (dk okX5_read 5 rfl) 0 rfl rfl ?_
    have s3 := t
    refine J_callVv (As := []) (dk okX5_read 6 rfl) hb.1 rfl vkX5_becomeNone lkX5_45 rfl rfl (Nat.le_of_ble_eq_true rfl) (by decide) (con_X5_becomeNone hb s3 ⟨rfl, ?_⟩)
    refine J_nm (fun μ4 eμ4 => ?_)
    refine J_iconst (v := (-1)) (dk okX5_read 7 rfl) (by decide) ?_
    subst eμ4 eμ1
    (try simp only [if_pos h2] at k ⊢)
    exact J_iret (dk okX5_read 8 rfl) rfl k
/-- VotingFloor.law()I -/
noncomputable def v_X11_law  (μ : Mm) : Int32 := (let μ2 : Mm := (e_X5_read 20 μ); (let μ3 : Mm := (e_X9_clear  μ2); (if (v_X5_read 20 μ) = (-1) then (let μ6 : Mm := (e_X1_become 8 1 μ3); (let μ8 : Mm := (e_X1_goTillNoon 8 15 μ6); (let μ10 : Mm := (e_X1_become 8 1 μ8); ((5000 + (v_X1_goTillNoon 8 20 μ10)) - (v_X1_goTillNoon 8 15 μ6))))) else ((-10000) - (v_X5_read 20 μ)))))
noncomputable def e_X11_law  (μ : Mm) : Mm := (let μ2 : Mm := (e_X5_read 20 μ); (let μ3 : Mm := (e_X9_clear  μ2); (if (v_X5_read 20 μ) = (-1) then (let μ6 : Mm := (e_X1_become 8 1 μ3); (let μ8 : Mm := (e_X1_goTillNoon 8 15 μ6); (let μ10 : Mm := (e_X1_become 8 1 μ8); (let μ12 : Mm := (e_X1_goTillNoon 8 20 μ10); (let μ13 : Mm := (e_X10_begin  μ12); (let μ15 : Mm := (e_X10_add (Int32.toInt64 (1 + (v_X11_direction (v_X1_goTillNoon 8 20 μ10)))) μ13); (let μ17 : Mm := (e_X10_add (Int32.toInt64 (1 + (v_X11_direction (v_X1_goTillNoon 8 15 μ6)))) μ15); (let μ19 : Mm := (e_X11_tellPlacesOfTrial  μ17); μ19)))))))) else μ3)))
def p_X11_law   (μ : Mm) : Prop := (p_X5_read 20 μ) ∧ (∀ μ2 : Mm, μ2 = (e_X5_read 20 μ) → (∀ μ3 : Mm, μ3 = (e_X9_clear  μ2) → ((v_X5_read 20 μ) = (-1) → (p_X1_become 8 1 μ3) ∧ (∀ μ6 : Mm, μ6 = (e_X1_become 8 1 μ3) → (p_X1_goTillNoon 8 15 μ6) ∧ (∀ μ8 : Mm, μ8 = (e_X1_goTillNoon 8 15 μ6) → (p_X1_become 8 1 μ8) ∧ (∀ μ10 : Mm, μ10 = (e_X1_become 8 1 μ8) → (p_X1_goTillNoon 8 20 μ10) ∧ (∀ μ12 : Mm, μ12 = (e_X1_goTillNoon 8 20 μ10) → (∀ μ13 : Mm, μ13 = (e_X10_begin  μ12) → (p_X10_add (Int32.toInt64 (1 + (v_X11_direction (v_X1_goTillNoon 8 20 μ10)))) μ13) ∧ (∀ μ15 : Mm, μ15 = (e_X10_add (Int32.toInt64 (1 + (v_X11_direction (v_X1_goTillNoon 8 20 μ10)))) μ13) → (p_X10_add (Int32.toInt64 (1 + (v_X11_direction (v_X1_goTillNoon 8 15 μ6)))) μ15) ∧ (∀ μ17 : Mm, μ17 = (e_X10_add (Int32.toInt64 (1 + (v_X11_direction (v_X1_goTillNoon 8 15 μ6)))) μ15) → p_X11_tellPlacesOfTrial μ17))))))))))
set_option maxRecDepth 20000 in
set_option maxHeartbeats 4000000 in
theorem con_X11_law {E : Ex} {Q : Option Value → Mm → Prop} {μ : Mm} (t : p_X11_law   μ) (k : Q (some (.int (v_X11_law  μ))) (e_X11_law  μ)) : Con E 7 mX11_law [rf E 0] μ Q := by
  refine Con_J (by decide +kernel) (Nat.le_of_ble_eq_true rfl) (fun G => ?_)
  unfold v_X11_law e_X11_law at k
  unfold p_X11_law at t
  refine J_sub (ls' := [(0, rf E 0)]) [0] rfl ?_
  refine J_aload_n (dk okX11_law 0 rfl) 0 rfl rfl ?_
  refine J_getR (dk okX11_law 1 rfl) kfX11_26 ds_0 rfl ?_
  refine J_aload_n (dk okX11_law 2 rfl) 0 rfl rfl ?_
  refine J_getR (dk okX11_law 3 rfl) kfX11_32 ds_0 rfl ?_
  obtain ⟨s1, t⟩ := t
  refine J_callVi (As := [rf E 25]) (dk okX11_law 4 rfl) ds_20 rfl vkX5_read lkX11_130 rfl rfl (Nat.le_of_ble_eq_true rfl) (by decide) (con_X5_read RuleAt_20 s1 ⟨_, rfl, ?_⟩)
  refine J_nm (fun μ2 eμ2 => ?_)
  have t := t μ2 eμ2
  refine J_istore_n (ls' := [(1, _), (0, _)]) (dk okX11_law 5 rfl) rfl (by decide) rfl ?_
  refine J_aload_n (dk okX11_law 6 rfl) 1 rfl rfl ?_
  refine J_getR (dk okX11_law 7 rfl) kfX11_32 ds_0 rfl ?_
  refine J_callVv (As := []) (dk okX11_law 8 rfl) ds_25 rfl vkX9_clear lkX11_127 rfl rfl (Nat.le_of_ble_eq_true rfl) (by decide) (con_X9_clear  ⟨rfl, ?_⟩)
  refine J_nm (fun μ3 eμ3 => ?_)
  have t := t μ3 eμ3
  refine J_iload_n (dk okX11_law 9 rfl) 0 rfl rfl ?_
  refine J_iconst (v := (-1)) (dk okX11_law 10 rfl) (by decide) ?_
  refine J_icmp_eq (tgt := 30) (dk okX11_law 11 rfl) (by decide) (fun h4 => ?_) (fun h4 => ?_)
  · have t := t h4
    refine J_aload_n (dk okX11_law 16 rfl) 1 rfl rfl ?_
    refine J_getR (dk okX11_law 17 rfl) kfX11_16 ds_0 rfl ?_
    refine J_aload_n (dk okX11_law 18 rfl) 1 rfl rfl ?_
    refine J_getR (dk okX11_law 19 rfl) kfX11_12 ds_0 rfl ?_
    obtain ⟨s5, t⟩ := t
    refine J_callVv (As := [rf E 1]) (dk okX11_law 20 rfl) ds_8 rfl vkX1_become lkX11_259 rfl rfl (Nat.le_of_ble_eq_true rfl) (by decide) (con_X1_become FloorAt_8 FloorAt_1 s5 ⟨rfl, ?_⟩)
    refine J_nm (fun μ6 eμ6 => ?_)
    have t := t μ6 eμ6
    refine J_aload_n (dk okX11_law 21 rfl) 1 rfl rfl ?_
    refine J_getR (dk okX11_law 22 rfl) kfX11_16 ds_0 rfl ?_
    refine J_aload_n (dk okX11_law 23 rfl) 1 rfl rfl ?_
    refine J_getR (dk okX11_law 24 rfl) kfX11_22 ds_0 rfl ?_
    obtain ⟨s7, t⟩ := t
    refine J_callVi (As := [rf E 15]) (dk okX11_law 25 rfl) ds_8 rfl vkX1_goTillNoon lkX11_261 rfl rfl (Nat.le_of_ble_eq_true rfl) (by decide) (con_X1_goTillNoon FloorAt_8 RuleAt_15 s7 ⟨_, rfl, ?_⟩)
    refine J_nm (fun μ8 eμ8 => ?_)
    have t := t μ8 eμ8
    refine J_istore_n (ls' := [(2, _), (1, _), (0, _)]) (dk okX11_law 26 rfl) rfl (by decide) rfl ?_
    refine J_aload_n (dk okX11_law 27 rfl) 2 rfl rfl ?_
    refine J_getR (dk okX11_law 28 rfl) kfX11_16 ds_0 rfl ?_
    refine J_aload_n (dk okX11_law 29 rfl) 2 rfl rfl ?_
    refine J_getR (dk okX11_law 30 rfl) kfX11_12 ds_0 rfl ?_
    obtain ⟨s9, t⟩ := t
    refine J_callVv (As := [rf E 1]) (dk okX11_law 31 rfl) ds_8 rfl vkX1_become lkX11_259 rfl rfl (Nat.le_of_ble_eq_true rfl) (by decide) (con_X1_become FloorAt_8 FloorAt_1 s9 ⟨rfl, ?_⟩)
    refine J_nm (fun μ10 eμ10 => ?_)
    have t := t μ10 eμ10
    refine J_aload_n (dk okX11_law 32 rfl) 2 rfl rfl ?_
    refine J_getR (dk okX11_law 33 rfl) kfX11_16 ds_0 rfl ?_
    refine J_aload_n (dk okX11_law 34 rfl) 2 rfl rfl ?_
    refine J_getR (dk okX11_law 35 rfl) kfX11_26 ds_0 rfl ?_
    obtain ⟨s11, t⟩ := t
    refine J_callVi (As := [rf E 20]) (dk okX11_law 36 rfl) ds_8 rfl vkX1_goTillNoon lkX11_261 rfl rfl (Nat.le_of_ble_eq_true rfl) (by decide) (con_X1_goTillNoon FloorAt_8 RuleAt_20 s11 ⟨_, rfl, ?_⟩)
    refine J_nm (fun μ12 eμ12 => ?_)
    have t := t μ12 eμ12
    refine J_istore_n (ls' := [(3, _), (2, _), (1, _), (0, _)]) (dk okX11_law 37 rfl) rfl (by decide) rfl ?_
    refine J_aload_n (dk okX11_law 38 rfl) 3 rfl rfl ?_
    refine J_getR (dk okX11_law 39 rfl) kfX11_39 ds_0 rfl ?_
    refine J_callVv (As := []) (dk okX11_law 40 rfl) ds_27 rfl vkX10_begin lkX11_196 rfl rfl (Nat.le_of_ble_eq_true rfl) (by decide) (con_X10_begin  ⟨rfl, ?_⟩)
    refine J_nm (fun μ13 eμ13 => ?_)
    have t := t μ13 eμ13
    refine J_aload_n (dk okX11_law 41 rfl) 3 rfl rfl ?_
    refine J_getR (dk okX11_law 42 rfl) kfX11_39 ds_0 rfl ?_
    refine J_iconst (v := 1) (dk okX11_law 43 rfl) (by decide) ?_
    refine J_iload_n (dk okX11_law 44 rfl) 0 rfl rfl ?_
    refine J_callSi (As := [.int (v_X1_goTillNoon 8 20 μ10)]) (dk okX11_law 45 rfl) skX11_direction lkX11_256 rfl rfl (Nat.le_of_ble_eq_true rfl) (by decide) (con_X11_direction  ⟨_, rfl, ?_⟩)
    refine J_iadd (dk okX11_law 46 rfl) ?_
    refine J_i2l (dk okX11_law 47 rfl) ?_
    obtain ⟨s14, t⟩ := t
    refine J_callVv (As := [.long (Int32.toInt64 (1 + (v_X11_direction (v_X1_goTillNoon 8 20 μ10))))]) (dk okX11_law 48 rfl) ds_27 rfl vkX10_add lkX11_199 rfl rfl (Nat.le_of_ble_eq_true rfl) (by decide) (con_X10_add s14 ⟨rfl, ?_⟩)
    refine J_nm (fun μ15 eμ15 => ?_)
    have t := t μ15 eμ15
    refine J_aload_n (dk okX11_law 49 rfl) 3 rfl rfl ?_
    refine J_getR (dk okX11_law 50 rfl) kfX11_39 ds_0 rfl ?_
    refine J_iconst (v := 1) (dk okX11_law 51 rfl) (by decide) ?_
    refine J_iload_n (dk okX11_law 52 rfl) 1 rfl rfl ?_
    refine J_callSi (As := [.int (v_X1_goTillNoon 8 15 μ6)]) (dk okX11_law 53 rfl) skX11_direction lkX11_256 rfl rfl (Nat.le_of_ble_eq_true rfl) (by decide) (con_X11_direction  ⟨_, rfl, ?_⟩)
    refine J_iadd (dk okX11_law 54 rfl) ?_
    refine J_i2l (dk okX11_law 55 rfl) ?_
    obtain ⟨s16, t⟩ := t
    refine J_callVv (As := [.long (Int32.toInt64 (1 + (v_X11_direction (v_X1_goTillNoon 8 15 μ6))))]) (dk okX11_law 56 rfl) ds_27 rfl vkX10_add lkX11_199 rfl rfl (Nat.le_of_ble_eq_true rfl) (by decide) (con_X10_add s16 ⟨rfl, ?_⟩)
    refine J_nm (fun μ17 eμ17 => ?_)
    have t := t μ17 eμ17
    refine J_aload_n (dk okX11_law 57 rfl) 3 rfl rfl ?_
    have s18 := t
    refine J_callVv (As := []) (dk okX11_law 58 rfl) ds_0 rfl vkX11_tellPlacesOfTrial lkX11_265 rfl rfl (Nat.le_of_ble_eq_true rfl) (by decide) (con_X11_tellPlacesOfTrial s18 ⟨rfl, ?_⟩)
    refine J_nm (fun μ19 eμ19 => ?_)
    refine J_sipush (v := 5000) (dk okX11_law 59 rfl) (by decide) ?_
    refine J_iload_n (dk okX11_law 60 rfl) 0 rfl rfl ?_
    refine J_iadd (dk okX11_law 61 rfl) ?_
    refine J_iload_n (dk okX11_law 62 rfl) 1 rfl rfl ?_
    refine J_isub (dk okX11_law 63 rfl) ?_
    subst eμ19 eμ17 eμ15 eμ13 eμ12 eμ10 eμ8 eμ6 eμ3 eμ2
    (try simp only [if_pos h4] at k ⊢)
    exact J_iret (dk okX11_law 64 rfl) rfl k
  · refine J_sipush (v := (-10000)) (dk okX11_law 12 rfl) (by decide) ?_
    refine J_iload_n (dk okX11_law 13 rfl) 0 rfl rfl ?_
    refine J_isub (dk okX11_law 14 rfl) ?_
    subst eμ3 eμ2
    (try simp only [if_neg h4] at k ⊢)
    exact J_iret (dk okX11_law 15 rfl) rfl k
noncomputable def bd_X11_looks_35  (μ : Mm) (x2 : Int32) (x3 : Int32) (x4 : Int32) : (Int32 × Int32 × Int32) ⊕ (Int32 × Int32) := (if 20 < x4 then .inr (x2, x3) else .inl ((if x3 ≤ (v_X11_mostOnOnePlace x4 μ) then x2 else x4 : Int32), (if x3 ≤ (v_X11_mostOnOnePlace x4 μ) then x3 else (v_X11_mostOnOnePlace x4 μ) : Int32), (x4 + 1)))
def sd_X11_looks_35   (μ : Mm) (x2 : Int32) (x3 : Int32) (x4 : Int32) : Prop := (¬ (20 < x4) → p_X11_mostOnOnePlace x4 μ)
set_option maxRecDepth 20000 in
set_option maxHeartbeats 4000000 in
theorem lw_X11_looks_35 {E : Ex} {G : Gx} {Q : Option Value → Mm → Prop} {x2 : Int32} {x3 : Int32} {x4 : Int32} {μ : Mm}  (p : whP (fun s : Int32 × Int32 × Int32 => bd_X11_looks_35  μ s.1 s.2.1 s.2.2) (fun s : Int32 × Int32 × Int32 => sd_X11_looks_35   μ s.1 s.2.1 s.2.2) FU (x2, x3, x4)) (k : ∀ r : Int32 × Int32, r = whl (fun s : Int32 × Int32 × Int32 => bd_X11_looks_35  μ s.1 s.2.1 s.2.2) (fun _ : Int32 × Int32 × Int32 => (0, 0)) FU (x2, x3, x4) → J E G 7 mX11_looks Q 68 [(0, rf E 0), (2, .int (r.1)), (3, .int (r.2))] [] μ) : J E G 7 mX11_looks Q 35 [(0, rf E 0), (2, .int x2), (3, .int x3), (4, .int x4)] [] μ := by
  refine J_whl (f := (fun s : Int32 × Int32 × Int32 => bd_X11_looks_35  μ s.1 s.2.1 s.2.2)) (dd := (fun _ : Int32 × Int32 × Int32 => (0, 0))) (sd := (fun s : Int32 × Int32 × Int32 => sd_X11_looks_35   μ s.1 s.2.1 s.2.2)) (P := fun s : Int32 × Int32 × Int32 => J E G 7 mX11_looks Q 35 [(0, rf E 0), (2, .int (s.1)), (3, .int (s.2.1)), (4, .int (s.2.2))] [] (μ)) (R := fun r : Int32 × Int32 => J E G 7 mX11_looks Q 68 [(0, rf E 0), (2, .int (r.1)), (3, .int (r.2))] [] μ) ?_ FU (x2, x3, x4) p (k _ rfl)
  clear p k
  rintro ⟨x2, x3, x4⟩ t k1 k2
  dsimp only [sd_X11_looks_35] at t
  have kb : ∀ (y2 : Int32) (y3 : Int32) (y4 : Int32) , bd_X11_looks_35  μ x2 x3 x4 = .inl (y2, y3, y4) → J E G 7 mX11_looks Q 35 [(0, rf E 0), (2, .int y2), (3, .int y3), (4, .int y4)] [] μ := fun y2 y3 y4  h => k1 (y2, y3, y4) h
  have kx : ∀ (y2 : Int32) (y3 : Int32) , bd_X11_looks_35  μ x2 x3 x4 = .inr (y2, y3) → J E G 7 mX11_looks Q 68 [(0, rf E 0), (2, .int y2), (3, .int y3)] [] μ := fun y2 y3  h => k2 (y2, y3) h
  clear k1 k2
  refine J_iload (dk okX11_looks 21 rfl) 3 rfl ?_
  refine J_bipush (v := 20) (dk okX11_looks 22 rfl) (by decide) ?_
  refine J_icmp_gt (tgt := 68) (dk okX11_looks 23 rfl) (by decide) (fun h1 => ?_) (fun h1 => ?_)
  · exact J_sub [0, 1, 2] rfl (kx x2 x3 (by unfold bd_X11_looks_35; first | (simp only [if_pos h1]; done) | (simp only [if_pos h1]; rfl) | rfl))
  · have t := t h1
    refine J_aload_n (dk okX11_looks 24 rfl) 0 rfl rfl ?_
    refine J_iload (dk okX11_looks 25 rfl) 3 rfl ?_
    have s2 := t
    refine J_callVi (As := [.int x4]) (dk okX11_looks 26 rfl) ds_0 rfl vkX11_mostOnOnePlace lkX11_352 rfl rfl (Nat.le_of_ble_eq_true rfl) (by decide) (con_X11_mostOnOnePlace s2 ⟨_, rfl, ?_⟩)
    refine J_istore (ls' := [(5, _), (0, _), (2, _), (3, _), (4, _)]) (dk okX11_looks 27 rfl) (by decide) rfl ?_
    refine J_iload (dk okX11_looks 28 rfl) 0 rfl ?_
    refine J_iload_n (dk okX11_looks 29 rfl) 3 rfl rfl ?_
    have K4 : J E G 7 mX11_looks Q 62 [(0, rf E 0), (2, .int (if x3 ≤ (v_X11_mostOnOnePlace x4 μ) then x2 else x4 : Int32)), (3, .int (if x3 ≤ (v_X11_mostOnOnePlace x4 μ) then x3 else (v_X11_mostOnOnePlace x4 μ) : Int32)), (4, .int x4)] [] μ := by
      refine J_iinc (v := (x4 + 1)) (ls' := [(4, _), (0, _), (2, _), (3, _)]) (dk okX11_looks 35 rfl) 3 rfl rfl (by decide) rfl ?_
      refine J_goto (tgt := 35) (dk okX11_looks 36 rfl) (by decide) ?_
      exact J_sub [1, 2, 3, 0] rfl (kb (if x3 ≤ (v_X11_mostOnOnePlace x4 μ) then x2 else x4 : Int32) (if x3 ≤ (v_X11_mostOnOnePlace x4 μ) then x3 else (v_X11_mostOnOnePlace x4 μ) : Int32) (x4 + 1) (by unfold bd_X11_looks_35; first | (simp only [if_neg h1]; done) | (simp only [if_neg h1]; rfl) | rfl))
    refine J_icmp_ge (tgt := 62) (dk okX11_looks 30 rfl) (by decide) (fun h3 => ?_) (fun h3 => ?_)
    · refine J_sub (ls' := [(0, _), (2, _), (3, _), (4, _)]) [1, 2, 3, 4] rfl ?_
      (try simp only [if_pos h3] at K4 ⊢); exact K4
    · refine J_iload (dk okX11_looks 31 rfl) 4 rfl ?_
      refine J_istore_n (ls' := [(2, _), (5, _), (0, _), (3, _), (4, _)]) (dk okX11_looks 32 rfl) rfl (by decide) rfl ?_
      refine J_iload (dk okX11_looks 33 rfl) 1 rfl ?_
      refine J_istore_n (ls' := [(3, _), (2, _), (5, _), (0, _), (4, _)]) (dk okX11_looks 34 rfl) rfl (by decide) rfl ?_
      refine J_sub (ls' := [(0, _), (2, _), (3, _), (4, _)]) [3, 1, 0, 4] rfl ?_
      (try simp only [if_neg h3] at K4 ⊢); exact K4
/-- VotingFloor.looks(I)I -/
noncomputable def v_X11_looks (p0 : Int32) (μ : Mm) : Int32 := (if (v_X1_has 1 p0 μ) = 0 then (-1) else (let μ3 : Mm := (e_X11_gatherCrowds p0 μ); (if (v_X11_gatherCrowds p0 μ) = 0 then (-2) else (let r7 : Int32 × Int32 := whl (fun s : Int32 × Int32 × Int32 => bd_X11_looks_35  μ3 s.1 s.2.1 s.2.2) (fun _ : Int32 × Int32 × Int32 => (0, 0)) FU (0, (v_X11_mostOnOnePlace 0 μ3), 1); (r7.1)))))
noncomputable def e_X11_looks (p0 : Int32) (μ : Mm) : Mm := (if (v_X1_has 1 p0 μ) = 0 then μ else (let μ3 : Mm := (e_X11_gatherCrowds p0 μ); (if (v_X11_gatherCrowds p0 μ) = 0 then μ3 else (let r7 : Int32 × Int32 := whl (fun s : Int32 × Int32 × Int32 => bd_X11_looks_35  μ3 s.1 s.2.1 s.2.2) (fun _ : Int32 × Int32 × Int32 => (0, 0)) FU (0, (v_X11_mostOnOnePlace 0 μ3), 1); (let μ8 : Mm := (e_X10_begin  μ3); (let μ10 : Mm := (e_X10_add (Int32.toInt64 (r7.2)) μ8); μ10))))))
def p_X11_looks (p0 : Int32)  (μ : Mm) : Prop := (¬ ((v_X1_has 1 p0 μ) = 0) → (p_X11_gatherCrowds p0 μ) ∧ (∀ μ3 : Mm, μ3 = (e_X11_gatherCrowds p0 μ) → (¬ ((v_X11_gatherCrowds p0 μ) = 0) → (p_X11_mostOnOnePlace 0 μ3) ∧ (whP (fun s : Int32 × Int32 × Int32 => bd_X11_looks_35  μ3 s.1 s.2.1 s.2.2) (fun s : Int32 × Int32 × Int32 => sd_X11_looks_35   μ3 s.1 s.2.1 s.2.2) FU (0, (v_X11_mostOnOnePlace 0 μ3), 1)) ∧ (∀ r7 : Int32 × Int32, r7 = whl (fun s : Int32 × Int32 × Int32 => bd_X11_looks_35  μ3 s.1 s.2.1 s.2.2) (fun _ : Int32 × Int32 × Int32 => (0, 0)) FU (0, (v_X11_mostOnOnePlace 0 μ3), 1) → (∀ μ8 : Mm, μ8 = (e_X10_begin  μ3) → p_X10_add (Int32.toInt64 (r7.2)) μ8)))))
set_option maxRecDepth 20000 in
set_option maxHeartbeats 4000000 in
theorem con_X11_looks {E : Ex} {Q : Option Value → Mm → Prop} {p0 : Int32} {μ : Mm} (t : p_X11_looks p0  μ) (k : Q (some (.int (v_X11_looks p0 μ))) (e_X11_looks p0 μ)) : Con E 7 mX11_looks [rf E 0, .int p0] μ Q := by
  refine Con_J (by decide +kernel) (Nat.le_of_ble_eq_true rfl) (fun G => ?_)
  unfold v_X11_looks e_X11_looks at k
  unfold p_X11_looks at t
  refine J_sub (ls' := [(0, rf E 0), (1, .int p0)]) [0, 1] rfl ?_
  refine J_aload_n (dk okX11_looks 0 rfl) 0 rfl rfl ?_
  refine J_getR (dk okX11_looks 1 rfl) kfX11_12 ds_0 rfl ?_
  refine J_iload_n (dk okX11_looks 2 rfl) 1 rfl rfl ?_
  refine J_callVi (As := [.int p0]) (dk okX11_looks 3 rfl) ds_1 rfl vkX1_has lkX11_138 rfl rfl (Nat.le_of_ble_eq_true rfl) (by decide) (con_X1_has FloorAt_1 ⟨_, rfl, ?_⟩)
  refine J_if_ne (tgt := 13) (dk okX11_looks 4 rfl) (by decide) (fun h1 => ?_) (fun h1 => ?_)
  · have t := t h1
    refine J_aload_n (dk okX11_looks 7 rfl) 0 rfl rfl ?_
    refine J_iload_n (dk okX11_looks 8 rfl) 1 rfl rfl ?_
    obtain ⟨s2, t⟩ := t
    refine J_callVi (As := [.int p0]) (dk okX11_looks 9 rfl) ds_0 rfl vkX11_gatherCrowds lkX11_349 rfl rfl (Nat.le_of_ble_eq_true rfl) (by decide) (con_X11_gatherCrowds s2 ⟨_, rfl, ?_⟩)
    refine J_nm (fun μ3 eμ3 => ?_)
    have t := t μ3 eμ3
    refine J_if_ne (tgt := 24) (dk okX11_looks 10 rfl) (by decide) (fun h4 => ?_) (fun h4 => ?_)
    · have t := t h4
      refine J_iconst (v := 0) (dk okX11_looks 13 rfl) (by decide) ?_
      refine J_istore_n (ls' := [(2, _), (0, _), (1, _)]) (dk okX11_looks 14 rfl) rfl (by decide) rfl ?_
      refine J_aload_n (dk okX11_looks 15 rfl) 1 rfl rfl ?_
      refine J_iconst (v := 0) (dk okX11_looks 16 rfl) (by decide) ?_
      obtain ⟨s5, t⟩ := t
      refine J_callVi (As := [.int 0]) (dk okX11_looks 17 rfl) ds_0 rfl vkX11_mostOnOnePlace lkX11_352 rfl rfl (Nat.le_of_ble_eq_true rfl) (by decide) (con_X11_mostOnOnePlace s5 ⟨_, rfl, ?_⟩)
      refine J_istore_n (ls' := [(3, _), (2, _), (0, _), (1, _)]) (dk okX11_looks 18 rfl) rfl (by decide) rfl ?_
      refine J_iconst (v := 1) (dk okX11_looks 19 rfl) (by decide) ?_
      refine J_istore (ls' := [(4, _), (3, _), (2, _), (0, _), (1, _)]) (dk okX11_looks 20 rfl) (by decide) rfl ?_
      obtain ⟨s6, t⟩ := t
      refine J_sub (ls' := [(0, _), (2, _), (3, _), (4, _)]) [3, 2, 1, 0] rfl ?_
      refine lw_X11_looks_35  s6 (fun r7 er7 => ?_)
      have t := t r7 er7
      refine J_aload_n (dk okX11_looks 37 rfl) 0 rfl rfl ?_
      refine J_getR (dk okX11_looks 38 rfl) kfX11_39 ds_0 rfl ?_
      refine J_callVv (As := []) (dk okX11_looks 39 rfl) ds_27 rfl vkX10_begin lkX11_196 rfl rfl (Nat.le_of_ble_eq_true rfl) (by decide) (con_X10_begin  ⟨rfl, ?_⟩)
      refine J_nm (fun μ8 eμ8 => ?_)
      have t := t μ8 eμ8
      refine J_aload_n (dk okX11_looks 40 rfl) 0 rfl rfl ?_
      refine J_getR (dk okX11_looks 41 rfl) kfX11_39 ds_0 rfl ?_
      refine J_iload_n (dk okX11_looks 42 rfl) 2 rfl rfl ?_
      refine J_i2l (dk okX11_looks 43 rfl) ?_
      have s9 := t
      refine J_callVv (As := [.long (Int32.toInt64 (r7.2))]) (dk okX11_looks 44 rfl) ds_27 rfl vkX10_add lkX11_199 rfl rfl (Nat.le_of_ble_eq_true rfl) (by decide) (con_X10_add s9 ⟨rfl, ?_⟩)
      refine J_nm (fun μ10 eμ10 => ?_)
      refine J_iload_n (dk okX11_looks 45 rfl) 1 rfl rfl ?_
      subst eμ10 eμ8 er7 eμ3
      (try simp only [if_neg h1, if_neg h4] at k ⊢)
      exact J_iret (dk okX11_looks 46 rfl) rfl k
    · refine J_bipush (v := (-2)) (dk okX11_looks 11 rfl) (by decide) ?_
      subst eμ3
      (try simp only [if_neg h1, if_pos h4] at k ⊢)
      exact J_iret (dk okX11_looks 12 rfl) rfl k
  · refine J_iconst (v := (-1)) (dk okX11_looks 5 rfl) (by decide) ?_
    (try simp only [if_pos h1] at k ⊢)
    exact J_iret (dk okX11_looks 6 rfl) rfl k

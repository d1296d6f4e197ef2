noncomputable def bd_X11_morning_45  (x2 : Int32) (x3 : Int32) (x4 : Int32) (x5 : Int32) (μ : Mm) : (Int32 × Int32 × Int32 × Int32 × Mm) ⊕ (Int32 × Int32 × Mm) := (if (μ.1 25 1) ≤ x5 then .inr (x2, x4, μ) else (if x4 = 0 then (let μ11 : Mm := (if x5 = x3 then ((e_X11_act x5 μ)) else μ : Mm); .inl ((if x5 = x3 then (x2 + (if (if 0 ≤ (v_X11_act x5 μ) then 0 else 1 : Int32) = 0 then 1 else 0 : Int32)) else x2 : Int32), (if x5 = x3 then (x3 + (v_X9_actLength (v_X9_at x5 μ))) else x3 : Int32), (if x5 = x3 then (if 0 ≤ (v_X11_act x5 μ) then 0 else 1 : Int32) else x4 : Int32), (x5 + 1), μ11)) else .inr (x2, x4, μ)))
def sd_X11_morning_45   (x2 : Int32) (x3 : Int32) (x4 : Int32) (x5 : Int32) (μ : Mm) : Prop := (¬ ((μ.1 25 1) ≤ x5) → (x4 = 0 → (x5 = x3 → (p_X9_at x5 μ) ∧ p_X11_act x5 μ)))
set_option maxRecDepth 20000 in
set_option maxHeartbeats 4000000 in
theorem lw_X11_morning_45 {E : Ex} {G : Gx} {Q : Option Value → Mm → Prop} {x2 : Int32} {x3 : Int32} {x4 : Int32} {x5 : Int32} {μ : Mm}  (p : whP (fun s : Int32 × Int32 × Int32 × Int32 × Mm => bd_X11_morning_45  s.1 s.2.1 s.2.2.1 s.2.2.2.1 s.2.2.2.2) (fun s : Int32 × Int32 × Int32 × Int32 × Mm => sd_X11_morning_45   s.1 s.2.1 s.2.2.1 s.2.2.2.1 s.2.2.2.2) FU (x2, x3, x4, x5, μ)) (k : ∀ r : Int32 × Int32 × Mm, r = whl (fun s : Int32 × Int32 × Int32 × Int32 × Mm => bd_X11_morning_45  s.1 s.2.1 s.2.2.1 s.2.2.2.1 s.2.2.2.2) (fun s : Int32 × Int32 × Int32 × Int32 × Mm => (0, 0, s.2.2.2.2)) FU (x2, x3, x4, x5, μ) → J E G 7 mX11_morning Q 118 [(0, rf E 0), (2, .int (r.1)), (4, .int (r.2.1))] [] (r.2.2)) : J E G 7 mX11_morning Q 45 [(0, rf E 0), (2, .int x2), (3, .int x3), (4, .int x4), (5, .int x5)] [] μ := by
  refine J_whl (f := (fun s : Int32 × Int32 × Int32 × Int32 × Mm => bd_X11_morning_45  s.1 s.2.1 s.2.2.1 s.2.2.2.1 s.2.2.2.2)) (dd := (fun s : Int32 × Int32 × Int32 × Int32 × Mm => (0, 0, s.2.2.2.2))) (sd := (fun s : Int32 × Int32 × Int32 × Int32 × Mm => sd_X11_morning_45   s.1 s.2.1 s.2.2.1 s.2.2.2.1 s.2.2.2.2)) (P := fun s : Int32 × Int32 × Int32 × Int32 × Mm => J E G 7 mX11_morning Q 45 [(0, rf E 0), (2, .int (s.1)), (3, .int (s.2.1)), (4, .int (s.2.2.1)), (5, .int (s.2.2.2.1))] [] (s.2.2.2.2)) (R := fun r : Int32 × Int32 × Mm => J E G 7 mX11_morning Q 118 [(0, rf E 0), (2, .int (r.1)), (4, .int (r.2.1))] [] (r.2.2)) ?_ FU (x2, x3, x4, x5, μ) p (k _ rfl)
  clear p k
  rintro ⟨x2, x3, x4, x5, μ⟩ t k1 k2
  dsimp only [sd_X11_morning_45] at t
  have kb : ∀ (y2 : Int32) (y3 : Int32) (y4 : Int32) (y5 : Int32) (μ9 : Mm), bd_X11_morning_45  x2 x3 x4 x5 μ = .inl (y2, y3, y4, y5, μ9) → J E G 7 mX11_morning Q 45 [(0, rf E 0), (2, .int y2), (3, .int y3), (4, .int y4), (5, .int y5)] [] μ9 := fun y2 y3 y4 y5 μ9 h => k1 (y2, y3, y4, y5, μ9) h
  have kx : ∀ (y2 : Int32) (y4 : Int32) (μ9 : Mm), bd_X11_morning_45  x2 x3 x4 x5 μ = .inr (y2, y4, μ9) → J E G 7 mX11_morning Q 118 [(0, rf E 0), (2, .int y2), (4, .int y4)] [] μ9 := fun y2 y4 μ9 h => k2 (y2, y4, μ9) h
  clear k1 k2
  refine J_iload (dk okX11_morning 27 rfl) 4 rfl ?_
  refine J_aload_n (dk okX11_morning 28 rfl) 0 rfl rfl ?_
  refine J_getR (dk okX11_morning 29 rfl) kfX11_32 ds_0 rfl ?_
  refine J_getI (dk okX11_morning 30 rfl) kfX11_99 ds_25 rfl ?_
  refine J_icmp_ge (tgt := 118) (dk okX11_morning 31 rfl) (by decide) (fun h1 => ?_) (fun h1 => ?_)
  · exact J_sub [0, 1, 3] rfl (kx x2 x4 μ (by unfold bd_X11_morning_45; first | (simp only [if_pos h1]; done) | (simp only [if_pos h1]; rfl) | rfl))
  · have t := t h1
    refine J_iload (dk okX11_morning 32 rfl) 3 rfl ?_
    refine J_if_ne (tgt := 118) (dk okX11_morning 33 rfl) (by decide) (fun h2 => ?_) (fun h2 => ?_)
    · exact J_sub [0, 1, 3] rfl (kx x2 x4 μ (by unfold bd_X11_morning_45; first | (simp only [if_neg h1, if_neg h2]; done) | (simp only [if_neg h1, if_neg h2]; rfl) | rfl))
    · have t := t h2
      refine J_iload (dk okX11_morning 34 rfl) 4 rfl ?_
      refine J_iload_n (dk okX11_morning 35 rfl) 2 rfl rfl ?_
      have K12 : J E G 7 mX11_morning Q 112 [(0, rf E 0), (2, .int (if x5 = x3 then (x2 + (if (if 0 ≤ (v_X11_act x5 μ) then 0 else 1 : Int32) = 0 then 1 else 0 : Int32)) else x2 : Int32)), (3, .int (if x5 = x3 then (x3 + (v_X9_actLength (v_X9_at x5 μ))) else x3 : Int32)), (4, .int (if x5 = x3 then (if 0 ≤ (v_X11_act x5 μ) then 0 else 1 : Int32) else x4 : Int32)), (5, .int x5)] [] (if x5 = x3 then ((e_X11_act x5 μ)) else μ : Mm) := by
        refine J_nm (fun μ11 eμ11 => ?_)
        refine J_iinc (v := (x5 + 1)) (ls' := [(5, _), (0, _), (2, _), (3, _), (4, _)]) (dk okX11_morning 61 rfl) 4 rfl rfl (by decide) rfl ?_
        refine J_goto (tgt := 45) (dk okX11_morning 62 rfl) (by decide) ?_
        exact J_sub [1, 2, 3, 4, 0] rfl (kb (if x5 = x3 then (x2 + (if (if 0 ≤ (v_X11_act x5 μ) then 0 else 1 : Int32) = 0 then 1 else 0 : Int32)) else x2 : Int32) (if x5 = x3 then (x3 + (v_X9_actLength (v_X9_at x5 μ))) else x3 : Int32) (if x5 = x3 then (if 0 ≤ (v_X11_act x5 μ) then 0 else 1 : Int32) else x4 : Int32) (x5 + 1) μ11 (by subst eμ11; unfold bd_X11_morning_45; first | (simp only [if_neg h1, if_pos h2]; done) | (simp only [if_neg h1, if_pos h2]; rfl) | rfl))
      refine J_icmp_ne (tgt := 112) (dk okX11_morning 36 rfl) (by decide) (fun h3 => ?_) (fun h3 => ?_)
      · refine J_sub (ls' := [(0, _), (2, _), (3, _), (4, _), (5, _)]) [0, 1, 2, 3, 4] rfl ?_
        (try simp only [if_neg h3] at K12 ⊢); exact K12
      · have t := t h3
        refine J_iload_n (dk okX11_morning 37 rfl) 2 rfl rfl ?_
        refine J_aload_n (dk okX11_morning 38 rfl) 0 rfl rfl ?_
        refine J_getR (dk okX11_morning 39 rfl) kfX11_32 ds_0 rfl ?_
        refine J_iload (dk okX11_morning 40 rfl) 4 rfl ?_
        obtain ⟨s4, t⟩ := t
        refine J_callVi (As := [.int x5]) (dk okX11_morning 41 rfl) ds_25 rfl vkX9_at lkX11_232 rfl rfl (Nat.le_of_ble_eq_true rfl) (by decide) (con_X9_at s4 ⟨_, rfl, ?_⟩)
        refine J_callSi (As := [.int (v_X9_at x5 μ)]) (dk okX11_morning 42 rfl) skX9_actLength lkX11_236 rfl rfl (Nat.le_of_ble_eq_true rfl) (by decide) (con_X9_actLength  ⟨_, rfl, ?_⟩)
        refine J_iadd (dk okX11_morning 43 rfl) ?_
        refine J_istore_n (ls' := [(3, _), (0, _), (2, _), (4, _), (5, _)]) (dk okX11_morning 44 rfl) rfl (by decide) rfl ?_
        refine J_aload_n (dk okX11_morning 45 rfl) 1 rfl rfl ?_
        refine J_iload (dk okX11_morning 46 rfl) 4 rfl ?_
        have s5 := t
        refine J_callVi (As := [.int x5]) (dk okX11_morning 47 rfl) ds_0 rfl vkX11_act lkX11_240 rfl rfl (Nat.le_of_ble_eq_true rfl) (by decide) (con_X11_act s5 ⟨_, rfl, ?_⟩)
        refine J_nm (fun μ6 eμ6 => ?_)
        have K8 : J E G 7 mX11_morning Q 97 [(0, rf E 0), (2, .int x2), (3, .int (x3 + (v_X9_actLength (v_X9_at x5 μ)))), (5, .int x5)] [.int (if 0 ≤ (v_X11_act x5 μ) then 0 else 1 : Int32)] μ6 := by
          refine J_istore (ls' := [(4, _), (0, _), (2, _), (3, _), (5, _)]) (dk okX11_morning 52 rfl) (by decide) rfl ?_
          refine J_iload_n (dk okX11_morning 53 rfl) 2 rfl rfl ?_
          refine J_iload (dk okX11_morning 54 rfl) 0 rfl ?_
          have K10 : J E G 7 mX11_morning Q 110 [(0, rf E 0), (3, .int (x3 + (v_X9_actLength (v_X9_at x5 μ)))), (4, .int (if 0 ≤ (v_X11_act x5 μ) then 0 else 1 : Int32)), (5, .int x5)] [.int (if (if 0 ≤ (v_X11_act x5 μ) then 0 else 1 : Int32) = 0 then 1 else 0 : Int32), .int x2] μ6 := by
            refine J_iadd (dk okX11_morning 59 rfl) ?_
            refine J_istore_n (ls' := [(2, _), (0, _), (3, _), (4, _), (5, _)]) (dk okX11_morning 60 rfl) rfl (by decide) rfl ?_
            subst eμ6
            refine J_sub (ls' := [(0, _), (2, _), (3, _), (4, _), (5, _)]) [1, 0, 2, 3, 4] rfl ?_
            (try simp only [if_pos h3] at K12 ⊢); exact K12
          refine J_if_eq (tgt := 109) (dk okX11_morning 55 rfl) (by decide) (fun h9 => ?_) (fun h9 => ?_)
          · refine J_iconst (v := 1) (dk okX11_morning 58 rfl) (by decide) ?_
            refine J_sub (ls' := [(0, _), (3, _), (4, _), (5, _)]) [1, 3, 0, 4] rfl ?_
            (try simp only [if_pos h9] at K10 ⊢); exact K10
          · refine J_iconst (v := 0) (dk okX11_morning 56 rfl) (by decide) ?_
            refine J_goto (tgt := 110) (dk okX11_morning 57 rfl) (by decide) ?_
            refine J_sub (ls' := [(0, _), (3, _), (4, _), (5, _)]) [1, 3, 0, 4] rfl ?_
            (try simp only [if_neg h9] at K10 ⊢); exact K10
        refine J_if_ge (tgt := 96) (dk okX11_morning 48 rfl) (by decide) (fun h7 => ?_) (fun h7 => ?_)
        · refine J_iconst (v := 0) (dk okX11_morning 51 rfl) (by decide) ?_
          refine J_sub (ls' := [(0, _), (2, _), (3, _), (5, _)]) [1, 2, 0, 4] rfl ?_
          (try simp only [if_pos h7] at K8 ⊢); exact K8
        · refine J_iconst (v := 1) (dk okX11_morning 49 rfl) (by decide) ?_
          refine J_goto (tgt := 97) (dk okX11_morning 50 rfl) (by decide) ?_
          refine J_sub (ls' := [(0, _), (2, _), (3, _), (5, _)]) [1, 2, 0, 4] rfl ?_
          (try simp only [if_neg h7] at K8 ⊢); exact K8
/-- VotingFloor.morning()I -/
noncomputable def v_X11_morning  (μ : Mm) : Int32 := (if (v_X9_badActSign  μ) = (-1) then (let μ4 : Mm := (e_X3_note 1 μ); (let r6 : Int32 × Int32 × Mm := whl (fun s : Int32 × Int32 × Int32 × Int32 × Mm => bd_X11_morning_45  s.1 s.2.1 s.2.2.1 s.2.2.2.1 s.2.2.2.2) (fun s : Int32 × Int32 × Int32 × Int32 × Mm => (0, 0, s.2.2.2.2)) FU (0, 0, 0, 0, μ4); (r6.1))) else ((-1) - (v_X9_badActSign  μ)))
noncomputable def e_X11_morning  (μ : Mm) : Mm := (if (v_X9_badActSign  μ) = (-1) then (let μ4 : Mm := (e_X3_note 1 μ); (let r6 : Int32 × Int32 × Mm := whl (fun s : Int32 × Int32 × Int32 × Int32 × Mm => bd_X11_morning_45  s.1 s.2.1 s.2.2.1 s.2.2.2.1 s.2.2.2.2) (fun s : Int32 × Int32 × Int32 × Int32 × Mm => (0, 0, s.2.2.2.2)) FU (0, 0, 0, 0, μ4); (let μ9 : Mm := (if (r6.1) ≤ 0 then (r6.2.2) else ((e_X3_commit  (r6.2.2))) : Mm); (let μ10 : Mm := (e_X9_clear  μ9); (let μ11 : Mm := (e_X10_begin  μ10); (let μ15 : Mm := (e_X10_add (if (r6.2.1) = 0 then 0 else 1 : Int64) μ11); (let μ18 : Mm := (e_X10_add (Int32.toInt64 (2000 + (v_X1_moment 1 μ15))) μ15); μ18))))))) else (let μ20 : Mm := (e_X9_clear  μ); μ20))
def p_X11_morning   (μ : Mm) : Prop := (p_X9_badActSign μ) ∧ ((v_X9_badActSign  μ) = (-1) → (p_X3_note 1 μ) ∧ (∀ μ4 : Mm, μ4 = (e_X3_note 1 μ) → (whP (fun s : Int32 × Int32 × Int32 × Int32 × Mm => bd_X11_morning_45  s.1 s.2.1 s.2.2.1 s.2.2.2.1 s.2.2.2.2) (fun s : Int32 × Int32 × Int32 × Int32 × Mm => sd_X11_morning_45   s.1 s.2.1 s.2.2.1 s.2.2.2.1 s.2.2.2.2) FU (0, 0, 0, 0, μ4)) ∧ (∀ r6 : Int32 × Int32 × Mm, r6 = whl (fun s : Int32 × Int32 × Int32 × Int32 × Mm => bd_X11_morning_45  s.1 s.2.1 s.2.2.1 s.2.2.2.1 s.2.2.2.2) (fun s : Int32 × Int32 × Int32 × Int32 × Mm => (0, 0, s.2.2.2.2)) FU (0, 0, 0, 0, μ4) → (∀ μ9 : Mm, μ9 = (if (r6.1) ≤ 0 then (r6.2.2) else ((e_X3_commit  (r6.2.2))) : Mm) → (∀ μ10 : Mm, μ10 = (e_X9_clear  μ9) → (∀ μ11 : Mm, μ11 = (e_X10_begin  μ10) → (p_X10_add (if (r6.2.1) = 0 then 0 else 1 : Int64) μ11) ∧ (∀ μ15 : Mm, μ15 = (e_X10_add (if (r6.2.1) = 0 then 0 else 1 : Int64) μ11) → (p_X1_moment 1 μ15) ∧ p_X10_add (Int32.toInt64 (2000 + (v_X1_moment 1 μ15))) μ15)))))))
set_option maxRecDepth 20000 in
set_option maxHeartbeats 4000000 in
theorem con_X11_morning {E : Ex} {Q : Option Value → Mm → Prop} {μ : Mm} (t : p_X11_morning   μ) (k : Q (some (.int (v_X11_morning  μ))) (e_X11_morning  μ)) : Con E 7 mX11_morning [rf E 0] μ Q := by
  refine Con_J (by decide +kernel) (Nat.le_of_ble_eq_true rfl) (fun G => ?_)
  unfold v_X11_morning e_X11_morning at k
  unfold p_X11_morning at t
  refine J_sub (ls' := [(0, rf E 0)]) [0] rfl ?_
  refine J_aload_n (dk okX11_morning 0 rfl) 0 rfl rfl ?_
  refine J_getR (dk okX11_morning 1 rfl) kfX11_32 ds_0 rfl ?_
  obtain ⟨s1, t⟩ := t
  refine J_callVi (As := []) (dk okX11_morning 2 rfl) ds_25 rfl vkX9_badActSign lkX11_229 rfl rfl (Nat.le_of_ble_eq_true rfl) (by decide) (con_X9_badActSign s1 ⟨_, rfl, ?_⟩)
  refine J_istore_n (ls' := [(1, _), (0, _)]) (dk okX11_morning 3 rfl) rfl (by decide) rfl ?_
  refine J_iload_n (dk okX11_morning 4 rfl) 0 rfl rfl ?_
  refine J_iconst (v := (-1)) (dk okX11_morning 5 rfl) (by decide) ?_
  refine J_icmp_eq (tgt := 24) (dk okX11_morning 6 rfl) (by decide) (fun h2 => ?_) (fun h2 => ?_)
  · have t := t h2
    refine J_aload_n (dk okX11_morning 14 rfl) 1 rfl rfl ?_
    refine J_getR (dk okX11_morning 15 rfl) kfX11_46 ds_0 rfl ?_
    refine J_aload_n (dk okX11_morning 16 rfl) 1 rfl rfl ?_
    refine J_getR (dk okX11_morning 17 rfl) kfX11_12 ds_0 rfl ?_
    obtain ⟨s3, t⟩ := t
    refine J_callVv (As := [rf E 1]) (dk okX11_morning 18 rfl) ds_29 rfl vkX3_note lkX11_185 rfl rfl (Nat.le_of_ble_eq_true rfl) (by decide) (con_X3_note FloorAt_1 s3 ⟨rfl, ?_⟩)
    refine J_nm (fun μ4 eμ4 => ?_)
    have t := t μ4 eμ4
    refine J_iconst (v := 0) (dk okX11_morning 19 rfl) (by decide) ?_
    refine J_istore_n (ls' := [(2, _), (1, _), (0, _)]) (dk okX11_morning 20 rfl) rfl (by decide) rfl ?_
    refine J_iconst (v := 0) (dk okX11_morning 21 rfl) (by decide) ?_
    refine J_istore_n (ls' := [(3, _), (2, _), (1, _), (0, _)]) (dk okX11_morning 22 rfl) rfl (by decide) rfl ?_
    refine J_iconst (v := 0) (dk okX11_morning 23 rfl) (by decide) ?_
    refine J_istore (ls' := [(4, _), (3, _), (2, _), (1, _), (0, _)]) (dk okX11_morning 24 rfl) (by decide) rfl ?_
    refine J_iconst (v := 0) (dk okX11_morning 25 rfl) (by decide) ?_
    refine J_istore (ls' := [(5, _), (4, _), (3, _), (2, _), (1, _), (0, _)]) (dk okX11_morning 26 rfl) (by decide) rfl ?_
    obtain ⟨s5, t⟩ := t
    refine J_sub (ls' := [(0, _), (2, _), (3, _), (4, _), (5, _)]) [5, 3, 2, 1, 0] rfl ?_
    refine lw_X11_morning_45  s5 (fun r6 er6 => ?_)
    have t := t r6 er6
    refine J_iload_n (dk okX11_morning 63 rfl) 1 rfl rfl ?_
    have K19 : J E G 7 mX11_morning Q 129 [(0, rf E 0), (2, .int (r6.1)), (4, .int (r6.2.1))] [] (if (r6.1) ≤ 0 then (r6.2.2) else ((e_X3_commit  (r6.2.2))) : Mm) := by
      refine J_nm (fun μ9 eμ9 => ?_)
      have t := t μ9 eμ9
      refine J_aload_n (dk okX11_morning 68 rfl) 0 rfl rfl ?_
      refine J_getR (dk okX11_morning 69 rfl) kfX11_32 ds_0 rfl ?_
      refine J_callVv (As := []) (dk okX11_morning 70 rfl) ds_25 rfl vkX9_clear lkX11_127 rfl rfl (Nat.le_of_ble_eq_true rfl) (by decide) (con_X9_clear  ⟨rfl, ?_⟩)
      refine J_nm (fun μ10 eμ10 => ?_)
      have t := t μ10 eμ10
      refine J_aload_n (dk okX11_morning 71 rfl) 0 rfl rfl ?_
      refine J_getR (dk okX11_morning 72 rfl) kfX11_39 ds_0 rfl ?_
      refine J_callVv (As := []) (dk okX11_morning 73 rfl) ds_27 rfl vkX10_begin lkX11_196 rfl rfl (Nat.le_of_ble_eq_true rfl) (by decide) (con_X10_begin  ⟨rfl, ?_⟩)
      refine J_nm (fun μ11 eμ11 => ?_)
      have t := t μ11 eμ11
      refine J_aload_n (dk okX11_morning 74 rfl) 0 rfl rfl ?_
      refine J_getR (dk okX11_morning 75 rfl) kfX11_39 ds_0 rfl ?_
      refine J_iload (dk okX11_morning 76 rfl) 2 rfl ?_
      have K13 : J E G 7 mX11_morning Q 157 [(0, rf E 0), (2, .int (r6.1))] [.long (if (r6.2.1) = 0 then 0 else 1 : Int64), rf E 27] μ11 := by
        obtain ⟨s14, t⟩ := t
        refine J_callVv (As := [.long (if (r6.2.1) = 0 then 0 else 1 : Int64)]) (dk okX11_morning 81 rfl) ds_27 rfl vkX10_add lkX11_199 rfl rfl (Nat.le_of_ble_eq_true rfl) (by decide) (con_X10_add s14 ⟨rfl, ?_⟩)
        refine J_nm (fun μ15 eμ15 => ?_)
        have t := t μ15 eμ15
        refine J_aload_n (dk okX11_morning 82 rfl) 0 rfl rfl ?_
        refine J_getR (dk okX11_morning 83 rfl) kfX11_39 ds_0 rfl ?_
        refine J_sipush (v := 2000) (dk okX11_morning 84 rfl) (by decide) ?_
        refine J_aload_n (dk okX11_morning 85 rfl) 0 rfl rfl ?_
        refine J_getR (dk okX11_morning 86 rfl) kfX11_12 ds_0 rfl ?_
        obtain ⟨s16, t⟩ := t
        refine J_callVi (As := []) (dk okX11_morning 87 rfl) ds_1 rfl vkX1_moment lkX11_163 rfl rfl (Nat.le_of_ble_eq_true rfl) (by decide) (con_X1_moment FloorAt_1 s16 ⟨_, rfl, ?_⟩)
        refine J_iadd (dk okX11_morning 88 rfl) ?_
        refine J_i2l (dk okX11_morning 89 rfl) ?_
        have s17 := t
        refine J_callVv (As := [.long (Int32.toInt64 (2000 + (v_X1_moment 1 μ15)))]) (dk okX11_morning 90 rfl) ds_27 rfl vkX10_add lkX11_199 rfl rfl (Nat.le_of_ble_eq_true rfl) (by decide) (con_X10_add s17 ⟨rfl, ?_⟩)
        refine J_nm (fun μ18 eμ18 => ?_)
        refine J_iload_n (dk okX11_morning 91 rfl) 1 rfl rfl ?_
        subst eμ18 eμ15 eμ11 eμ10 eμ9 er6 eμ4
        (try simp only [if_pos h2] at k ⊢)
        exact J_iret (dk okX11_morning 92 rfl) rfl k
      refine J_if_eq (tgt := 156) (dk okX11_morning 77 rfl) (by decide) (fun h12 => ?_) (fun h12 => ?_)
      · refine J_lconst (v := 0) (dk okX11_morning 80 rfl) (by decide) ?_
        refine J_sub (ls' := [(0, _), (2, _)]) [0, 1] rfl ?_
        (try simp only [if_pos h12] at K13 ⊢); exact K13
      · refine J_lconst (v := 1) (dk okX11_morning 78 rfl) (by decide) ?_
        refine J_goto (tgt := 157) (dk okX11_morning 79 rfl) (by decide) ?_
        refine J_sub (ls' := [(0, _), (2, _)]) [0, 1] rfl ?_
        (try simp only [if_neg h12] at K13 ⊢); exact K13
    refine J_if_le (tgt := 129) (dk okX11_morning 64 rfl) (by decide) (fun h7 => ?_) (fun h7 => ?_)
    · refine J_sub (ls' := [(0, _), (2, _), (4, _)]) [0, 1, 2] rfl ?_
      (try simp only [if_pos h7] at K19 ⊢); exact K19
    · refine J_aload_n (dk okX11_morning 65 rfl) 0 rfl rfl ?_
      refine J_getR (dk okX11_morning 66 rfl) kfX11_46 ds_0 rfl ?_
      refine J_callVv (As := []) (dk okX11_morning 67 rfl) ds_29 rfl vkX3_commit lkX11_193 rfl rfl (Nat.le_of_ble_eq_true rfl) (by decide) (con_X3_commit  ⟨rfl, ?_⟩)
      refine J_nm (fun μ8 eμ8 => ?_)
      subst eμ8
      refine J_sub (ls' := [(0, _), (2, _), (4, _)]) [0, 1, 2] rfl ?_
      (try simp only [if_neg h7] at K19 ⊢); exact K19
  · refine J_aload_n (dk okX11_morning 7 rfl) 1 rfl rfl ?_
    refine J_getR (dk okX11_morning 8 rfl) kfX11_32 ds_0 rfl ?_
    refine J_callVv (As := []) (dk okX11_morning 9 rfl) ds_25 rfl vkX9_clear lkX11_127 rfl rfl (Nat.le_of_ble_eq_true rfl) (by decide) (con_X9_clear  ⟨rfl, ?_⟩)
    refine J_nm (fun μ20 eμ20 => ?_)
    refine J_iconst (v := (-1)) (dk okX11_morning 10 rfl) (by decide) ?_
    refine J_iload_n (dk okX11_morning 11 rfl) 0 rfl rfl ?_
    refine J_isub (dk okX11_morning 12 rfl) ?_
    subst eμ20
    (try simp only [if_neg h2] at k ⊢)
    exact J_iret (dk okX11_morning 13 rfl) rfl k
/-- VotingFloor.rule()I -/
noncomputable def v_X11_rule  (μ : Mm) : Int32 := (if (v_X5_read 20 μ) = (-1) then 0 else ((-1) - (v_X5_read 20 μ)))
noncomputable def e_X11_rule  (μ : Mm) : Mm := (let μ2 : Mm := (e_X5_read 20 μ); (let μ3 : Mm := (e_X9_clear  μ2); (if (v_X5_read 20 μ) = (-1) then (let μ6 : Mm := (e_X5_become 15 20 μ3); μ6) else μ3)))
def p_X11_rule   (μ : Mm) : Prop := (p_X5_read 20 μ) ∧ (∀ μ2 : Mm, μ2 = (e_X5_read 20 μ) → (∀ μ3 : Mm, μ3 = (e_X9_clear  μ2) → ((v_X5_read 20 μ) = (-1) → p_X5_become 15 20 μ3)))
set_option maxRecDepth 20000 in
set_option maxHeartbeats 4000000 in
theorem con_X11_rule {E : Ex} {Q : Option Value → Mm → Prop} {μ : Mm} (t : p_X11_rule   μ) (k : Q (some (.int (v_X11_rule  μ))) (e_X11_rule  μ)) : Con E 7 mX11_rule [rf E 0] μ Q := by
  refine Con_J (by decide +kernel) (Nat.le_of_ble_eq_true rfl) (fun G => ?_)
  unfold v_X11_rule e_X11_rule at k
  unfold p_X11_rule at t
  refine J_sub (ls' := [(0, rf E 0)]) [0] rfl ?_
  refine J_aload_n (dk okX11_rule 0 rfl) 0 rfl rfl ?_
  refine J_getR (dk okX11_rule 1 rfl) kfX11_26 ds_0 rfl ?_
  refine J_aload_n (dk okX11_rule 2 rfl) 0 rfl rfl ?_
  refine J_getR (dk okX11_rule 3 rfl) kfX11_32 ds_0 rfl ?_
  obtain ⟨s1, t⟩ := t
  refine J_callVi (As := [rf E 25]) (dk okX11_rule 4 rfl) ds_20 rfl vkX5_read lkX11_130 rfl rfl (Nat.le_of_ble_eq_true rfl) (by decide) (con_X5_read RuleAt_20 s1 ⟨_, rfl, ?_⟩)
  refine J_nm (fun μ2 eμ2 => ?_)
  have t := t μ2 eμ2
  refine J_istore_n (ls' := [(1, _), (0, _)]) (dk okX11_rule 5 rfl) rfl (by decide) rfl ?_
  refine J_aload_n (dk okX11_rule 6 rfl) 1 rfl rfl ?_
  refine J_getR (dk okX11_rule 7 rfl) kfX11_32 ds_0 rfl ?_
  refine J_callVv (As := []) (dk okX11_rule 8 rfl) ds_25 rfl vkX9_clear lkX11_127 rfl rfl (Nat.le_of_ble_eq_true rfl) (by decide) (con_X9_clear  ⟨rfl, ?_⟩)
  refine J_nm (fun μ3 eμ3 => ?_)
  have t := t μ3 eμ3
  refine J_iload_n (dk okX11_rule 9 rfl) 0 rfl rfl ?_
  refine J_iconst (v := (-1)) (dk okX11_rule 10 rfl) (by decide) ?_
  refine J_icmp_eq (tgt := 28) (dk okX11_rule 11 rfl) (by decide) (fun h4 => ?_) (fun h4 => ?_)
  · have t := t h4
    refine J_aload_n (dk okX11_rule 16 rfl) 1 rfl rfl ?_
    refine J_getR (dk okX11_rule 17 rfl) kfX11_22 ds_0 rfl ?_
    refine J_aload_n (dk okX11_rule 18 rfl) 1 rfl rfl ?_
    refine J_getR (dk okX11_rule 19 rfl) kfX11_26 ds_0 rfl ?_
    have s5 := t
    refine J_callVv (As := [rf E 20]) (dk okX11_rule 20 rfl) ds_15 rfl vkX5_become lkX11_134 rfl rfl (Nat.le_of_ble_eq_true rfl) (by decide) (con_X5_become RuleAt_15 RuleAt_20 s5 ⟨rfl, ?_⟩)
    refine J_nm (fun μ6 eμ6 => ?_)
    refine J_iconst (v := 0) (dk okX11_rule 21 rfl) (by decide) ?_
    subst eμ6 eμ3 eμ2
    (try simp only [if_pos h4] at k ⊢)
    exact J_iret (dk okX11_rule 22 rfl) rfl k
  · refine J_iconst (v := (-1)) (dk okX11_rule 12 rfl) (by decide) ?_
    refine J_iload_n (dk okX11_rule 13 rfl) 0 rfl rfl ?_
    refine J_isub (dk okX11_rule 14 rfl) ?_
    subst eμ3 eμ2
    (try simp only [if_neg h4] at k ⊢)
    exact J_iret (dk okX11_rule 15 rfl) rfl k
/-- VotingFloorModel.does(I)Z -/
noncomputable def v_X12_does (p0 : Int32) (μ : Mm) : Int32 := (if (μ.1 63 (Int32.toNatClampNeg p0)) = 0 then 1 else (if (μ.1 63 (Int32.toNatClampNeg p0)) = 1 then (if (v_X12_stepsOff 52 (μ.1 64 (Int32.toNatClampNeg p0)) μ) < 0 then 0 else 1 : Int32) else (if (μ.1 63 (Int32.toNatClampNeg p0)) = 2 then (if (v_X12_sacksTo (μ.1 64 (Int32.toNatClampNeg p0)) (μ.1 65 (Int32.toNatClampNeg p0)) μ) < 0 then 0 else 1 : Int32) else (if (μ.1 63 (Int32.toNatClampNeg p0)) = 3 then (if (v_X12_leadsTo (μ.1 64 (Int32.toNatClampNeg p0)) (μ.1 65 (Int32.toNatClampNeg p0)) μ) < 0 then 0 else 1 : Int32) else (if (v_X12_wishesTo (μ.1 64 (Int32.toNatClampNeg p0)) (μ.1 65 (Int32.toNatClampNeg p0)) μ) < 0 then 0 else 1 : Int32)))))
noncomputable def e_X12_does (p0 : Int32) (μ : Mm) : Mm := (if (μ.1 63 (Int32.toNatClampNeg p0)) = 0 then (let μ6 : Mm := (e_X12_goesOn 52 (μ.1 64 (Int32.toNatClampNeg p0)) μ); μ6) else (if (μ.1 63 (Int32.toNatClampNeg p0)) = 1 then (let μ8 : Mm := (e_X12_stepsOff 52 (μ.1 64 (Int32.toNatClampNeg p0)) μ); μ8) else (if (μ.1 63 (Int32.toNatClampNeg p0)) = 2 then (let μ14 : Mm := (e_X12_sacksTo (μ.1 64 (Int32.toNatClampNeg p0)) (μ.1 65 (Int32.toNatClampNeg p0)) μ); μ14) else (if (μ.1 63 (Int32.toNatClampNeg p0)) = 3 then (let μ20 : Mm := (e_X12_leadsTo (μ.1 64 (Int32.toNatClampNeg p0)) (μ.1 65 (Int32.toNatClampNeg p0)) μ); μ20) else (let μ25 : Mm := (e_X12_wishesTo (μ.1 64 (Int32.toNatClampNeg p0)) (μ.1 65 (Int32.toNatClampNeg p0)) μ); μ25)))))
def p_X12_does (p0 : Int32)  (μ : Mm) : Prop := (vp_in p0 60) ∧ (vp_in p0 60) ∧ (((μ.1 63 (Int32.toNatClampNeg p0)) = 0 → p_X12_goesOn 52 (μ.1 64 (Int32.toNatClampNeg p0)) μ) ∧ (¬ ((μ.1 63 (Int32.toNatClampNeg p0)) = 0) → (¬ ((μ.1 63 (Int32.toNatClampNeg p0)) = 1) → (((μ.1 63 (Int32.toNatClampNeg p0)) = 2 → (vp_in p0 60) ∧ p_X12_sacksTo (μ.1 64 (Int32.toNatClampNeg p0)) (μ.1 65 (Int32.toNatClampNeg p0)) μ) ∧ (¬ ((μ.1 63 (Int32.toNatClampNeg p0)) = 2) → (((μ.1 63 (Int32.toNatClampNeg p0)) = 3 → (vp_in p0 60) ∧ p_X12_leadsTo (μ.1 64 (Int32.toNatClampNeg p0)) (μ.1 65 (Int32.toNatClampNeg p0)) μ) ∧ (¬ ((μ.1 63 (Int32.toNatClampNeg p0)) = 3) → (vp_in p0 60) ∧ p_X12_wishesTo (μ.1 64 (Int32.toNatClampNeg p0)) (μ.1 65 (Int32.toNatClampNeg p0)) μ)))))))
set_option maxRecDepth 20000 in
set_option maxHeartbeats 4000000 in
theorem con_X12_does {E : Ex} {Q : Option Value → Mm → Prop} {p0 : Int32} {μ : Mm} (t : p_X12_does p0  μ) (k : Q (some (.int (v_X12_does p0 μ))) (e_X12_does p0 μ)) : Con E 7 mX12_does [rf E 49, .int p0] μ Q := by
  refine Con_J (by decide +kernel) (Nat.le_of_ble_eq_true rfl) (fun G => ?_)
  unfold v_X12_does e_X12_does at k
  unfold p_X12_does at t
  refine J_sub (ls' := [(0, rf E 49), (1, .int p0)]) [0, 1] rfl ?_
  refine J_aload_n (dk okX12_does 0 rfl) 0 rfl rfl ?_
  refine J_getR (dk okX12_does 1 rfl) kfX12_68 ds_49 rfl ?_
  refine J_iload_n (dk okX12_does 2 rfl) 1 rfl rfl ?_
  obtain ⟨s1, t⟩ := t
  refine J_iald (dk okX12_does 3 rfl) ds_64 s1 ?_
  refine J_istore_n (ls' := [(2, _), (0, _), (1, _)]) (dk okX12_does 4 rfl) rfl (by decide) rfl ?_
  refine J_aload_n (dk okX12_does 5 rfl) 1 rfl rfl ?_
  refine J_getR (dk okX12_does 6 rfl) kfX12_65 ds_49 rfl ?_
  refine J_iload_n (dk okX12_does 7 rfl) 2 rfl rfl ?_
  obtain ⟨s2, t⟩ := t
  refine J_iald (dk okX12_does 8 rfl) ds_63 s2 ?_
  by_cases h4 : (μ.1 63 (Int32.toNatClampNeg p0)) = 0
  · have t := t.1 h4
    refine J_at h4 (J_tableIn (x := 0) (off := 31) (tgt := 44) (dk okX12_does 9 rfl) (by decide) (by decide) (by decide) (by decide) ?_)
    refine J_aload_n (dk okX12_does 10 rfl) 1 rfl rfl ?_
    refine J_aload_n (dk okX12_does 11 rfl) 1 rfl rfl ?_
    refine J_getR (dk okX12_does 12 rfl) kfX12_32 ds_49 rfl ?_
    refine J_iload_n (dk okX12_does 13 rfl) 0 rfl rfl ?_
    have s5 := t
    refine J_callVi (As := [rf E 52, .int (μ.1 64 (Int32.toNatClampNeg p0))]) (dk okX12_does 14 rfl) ds_49 rfl vkX12_goesOn lkX12_309 rfl rfl (Nat.le_of_ble_eq_true rfl) (by decide) (con_X12_goesOn ds_52 s5 ⟨_, rfl, ?_⟩)
    refine J_nm (fun μ6 eμ6 => ?_)
    refine J_pop (dk okX12_does 15 rfl) rfl ?_
    refine J_iconst (v := 1) (dk okX12_does 16 rfl) (by decide) ?_
    subst eμ6
    (try simp only [if_pos h4] at k ⊢)
    exact J_zret (dk okX12_does 17 rfl) rfl rfl k
  · have t := t.2 h4
    by_cases h7 : (μ.1 63 (Int32.toNatClampNeg p0)) = 1
    · refine J_at h7 (J_tableIn (x := 1) (off := 43) (tgt := 56) (dk okX12_does 9 rfl) (by decide) (by decide) (by decide) (by decide) ?_)
      refine J_aload_n (dk okX12_does 18 rfl) 1 rfl rfl ?_
      refine J_aload_n (dk okX12_does 19 rfl) 1 rfl rfl ?_
      refine J_getR (dk okX12_does 20 rfl) kfX12_32 ds_49 rfl ?_
      refine J_iload_n (dk okX12_does 21 rfl) 0 rfl rfl ?_
      refine J_callVi (As := [rf E 52, .int (μ.1 64 (Int32.toNatClampNeg p0))]) (dk okX12_does 22 rfl) ds_49 rfl vkX12_stepsOff lkX12_324 rfl rfl (Nat.le_of_ble_eq_true rfl) (by decide) (con_X12_stepsOff ds_52 ⟨_, rfl, ?_⟩)
      refine J_nm (fun μ8 eμ8 => ?_)
      have K10 : J E G 7 mX12_does Q 73 [] [.int (if (v_X12_stepsOff 52 (μ.1 64 (Int32.toNatClampNeg p0)) μ) < 0 then 0 else 1 : Int32)] μ8 := by
        subst eμ8
        (try simp only [if_neg h4, if_pos h7] at k ⊢)
        exact J_zret (dk okX12_does 27 rfl) rfl (by (repeat' split) <;> first | rfl | (simp only [*]; rfl)) k
      refine J_if_lt (tgt := 72) (dk okX12_does 23 rfl) (by decide) (fun h9 => ?_) (fun h9 => ?_)
      · refine J_iconst (v := 0) (dk okX12_does 26 rfl) (by decide) ?_
        refine J_sub (ls' := []) [] rfl ?_
        (try simp only [if_pos h9] at K10 ⊢); exact K10
      · refine J_iconst (v := 1) (dk okX12_does 24 rfl) (by decide) ?_
        refine J_goto (tgt := 73) (dk okX12_does 25 rfl) (by decide) ?_
        refine J_sub (ls' := []) [] rfl ?_
        (try simp only [if_neg h9] at K10 ⊢); exact K10
    · have t := t h7
      by_cases h11 : (μ.1 63 (Int32.toNatClampNeg p0)) = 2
      · have t := t.1 h11
        refine J_at h11 (J_tableIn (x := 2) (off := 61) (tgt := 74) (dk okX12_does 9 rfl) (by decide) (by decide) (by decide) (by decide) ?_)
        refine J_aload_n (dk okX12_does 28 rfl) 1 rfl rfl ?_
        refine J_iload_n (dk okX12_does 29 rfl) 0 rfl rfl ?_
        refine J_aload_n (dk okX12_does 30 rfl) 1 rfl rfl ?_
        refine J_getR (dk okX12_does 31 rfl) kfX12_71 ds_49 rfl ?_
        refine J_iload_n (dk okX12_does 32 rfl) 2 rfl rfl ?_
        obtain ⟨s12, t⟩ := t
        refine J_iald (dk okX12_does 33 rfl) ds_65 s12 ?_
        have s13 := t
        refine J_callVi (As := [.int (μ.1 64 (Int32.toNatClampNeg p0)), .int (μ.1 65 (Int32.toNatClampNeg p0))]) (dk okX12_does 34 rfl) ds_49 rfl vkX12_sacksTo lkX12_321 rfl rfl (Nat.le_of_ble_eq_true rfl) (by decide) (con_X12_sacksTo s13 ⟨_, rfl, ?_⟩)
        refine J_nm (fun μ14 eμ14 => ?_)
        have K16 : J E G 7 mX12_does Q 93 [] [.int (if (v_X12_sacksTo (μ.1 64 (Int32.toNatClampNeg p0)) (μ.1 65 (Int32.toNatClampNeg p0)) μ) < 0 then 0 else 1 : Int32)] μ14 := by
          subst eμ14
          (try simp only [if_neg h4, if_neg h7, if_pos h11] at k ⊢)
          exact J_zret (dk okX12_does 39 rfl) rfl (by (repeat' split) <;> first | rfl | (simp only [*]; rfl)) k
        refine J_if_lt (tgt := 92) (dk okX12_does 35 rfl) (by decide) (fun h15 => ?_) (fun h15 => ?_)
        · refine J_iconst (v := 0) (dk okX12_does 38 rfl) (by decide) ?_
          refine J_sub (ls' := []) [] rfl ?_
          (try simp only [if_pos h15] at K16 ⊢); exact K16
        · refine J_iconst (v := 1) (dk okX12_does 36 rfl) (by decide) ?_
          refine J_goto (tgt := 93) (dk okX12_does 37 rfl) (by decide) ?_
          refine J_sub (ls' := []) [] rfl ?_
          (try simp only [if_neg h15] at K16 ⊢); exact K16
      · have t := t.2 h11
        by_cases h17 : (μ.1 63 (Int32.toNatClampNeg p0)) = 3
        · have t := t.1 h17
          refine J_at h17 (J_tableIn (x := 3) (off := 81) (tgt := 94) (dk okX12_does 9 rfl) (by decide) (by decide) (by decide) (by decide) ?_)
          refine J_aload_n (dk okX12_does 40 rfl) 1 rfl rfl ?_
          refine J_iload_n (dk okX12_does 41 rfl) 0 rfl rfl ?_
          refine J_aload_n (dk okX12_does 42 rfl) 1 rfl rfl ?_
          refine J_getR (dk okX12_does 43 rfl) kfX12_71 ds_49 rfl ?_
          refine J_iload_n (dk okX12_does 44 rfl) 2 rfl rfl ?_
          obtain ⟨s18, t⟩ := t
          refine J_iald (dk okX12_does 45 rfl) ds_65 s18 ?_
          have s19 := t
          refine J_callVi (As := [.int (μ.1 64 (Int32.toNatClampNeg p0)), .int (μ.1 65 (Int32.toNatClampNeg p0))]) (dk okX12_does 46 rfl) ds_49 rfl vkX12_leadsTo lkX12_315 rfl rfl (Nat.le_of_ble_eq_true rfl) (by decide) (con_X12_leadsTo s19 ⟨_, rfl, ?_⟩)
          refine J_nm (fun μ20 eμ20 => ?_)
          have K22 : J E G 7 mX12_does Q 113 [] [.int (if (v_X12_leadsTo (μ.1 64 (Int32.toNatClampNeg p0)) (μ.1 65 (Int32.toNatClampNeg p0)) μ) < 0 then 0 else 1 : Int32)] μ20 := by
            subst eμ20
            (try simp only [if_neg h4, if_neg h7, if_neg h11, if_pos h17] at k ⊢)
            exact J_zret (dk okX12_does 51 rfl) rfl (by (repeat' split) <;> first | rfl | (simp only [*]; rfl)) k
          refine J_if_lt (tgt := 112) (dk okX12_does 47 rfl) (by decide) (fun h21 => ?_) (fun h21 => ?_)
          · refine J_iconst (v := 0) (dk okX12_does 50 rfl) (by decide) ?_
            refine J_sub (ls' := []) [] rfl ?_
            (try simp only [if_pos h21] at K22 ⊢); exact K22
          · refine J_iconst (v := 1) (dk okX12_does 48 rfl) (by decide) ?_
            refine J_goto (tgt := 113) (dk okX12_does 49 rfl) (by decide) ?_
            refine J_sub (ls' := []) [] rfl ?_
            (try simp only [if_neg h21] at K22 ⊢); exact K22
        · have t := t.2 h17
          have nh4 := lv_neT (a := 0) h4 (by decide)
          have nh7 := lv_neT (a := 1) h7 (by decide)
          have nh11 := lv_neT (a := 2) h11 (by decide)
          have nh17 := lv_neT (a := 3) h17 (by decide)
          refine J_tableOut (tgt := 114) (dk okX12_does 9 rfl) (by omega) (by decide) ?_
          refine J_aload_n (dk okX12_does 52 rfl) 1 rfl rfl ?_
          refine J_iload_n (dk okX12_does 53 rfl) 0 rfl rfl ?_
          refine J_aload_n (dk okX12_does 54 rfl) 1 rfl rfl ?_
          refine J_getR (dk okX12_does 55 rfl) kfX12_71 ds_49 rfl ?_
          refine J_iload_n (dk okX12_does 56 rfl) 2 rfl rfl ?_
          obtain ⟨s23, t⟩ := t
          refine J_iald (dk okX12_does 57 rfl) ds_65 s23 ?_
          have s24 := t
          refine J_callVi (As := [.int (μ.1 64 (Int32.toNatClampNeg p0)), .int (μ.1 65 (Int32.toNatClampNeg p0))]) (dk okX12_does 58 rfl) ds_49 rfl vkX12_wishesTo lkX12_327 rfl rfl (Nat.le_of_ble_eq_true rfl) (by decide) (con_X12_wishesTo s24 ⟨_, rfl, ?_⟩)
          refine J_nm (fun μ25 eμ25 => ?_)
          have K27 : J E G 7 mX12_does Q 133 [] [.int (if (v_X12_wishesTo (μ.1 64 (Int32.toNatClampNeg p0)) (μ.1 65 (Int32.toNatClampNeg p0)) μ) < 0 then 0 else 1 : Int32)] μ25 := by
            subst eμ25
            (try simp only [if_neg h4, if_neg h7, if_neg h11, if_neg h17] at k ⊢)
            exact J_zret (dk okX12_does 63 rfl) rfl (by (repeat' split) <;> first | rfl | (simp only [*]; rfl)) k
          refine J_if_lt (tgt := 132) (dk okX12_does 59 rfl) (by decide) (fun h26 => ?_) (fun h26 => ?_)
          · refine J_iconst (v := 0) (dk okX12_does 62 rfl) (by decide) ?_
            refine J_sub (ls' := []) [] rfl ?_
            (try simp only [if_pos h26] at K27 ⊢); exact K27
          · refine J_iconst (v := 1) (dk okX12_does 60 rfl) (by decide) ?_
            refine J_goto (tgt := 133) (dk okX12_does 61 rfl) (by decide) ?_
            refine J_sub (ls' := []) [] rfl ?_
            (try simp only [if_neg h26] at K27 ⊢); exact K27
theorem nb_X12_does (p0 : Int32) (μ : Mm) : narrow .boolean (.int (v_X12_does p0 μ)) = .int (v_X12_does p0 μ) := by
  unfold v_X12_does; (repeat' split) <;> rfl
/-- VotingFloorModel.goesToNoon()V -/
noncomputable def e_X12_goesToNoon  (μ : Mm) : Mm := (let μ2 : Mm := (e_X12_copies  μ); (let μ4 : Mm := (e_X12_goesOn 53 (if 0 < ((μ2.1 53 (Int32.toNatClampNeg 23)) - (μ2.1 53 (Int32.toNatClampNeg 22))) then ((μ2.1 53 (Int32.toNatClampNeg 23)) - (μ2.1 53 (Int32.toNatClampNeg 22))) else 0) μ2); μ4))
def p_X12_goesToNoon   (μ : Mm) : Prop := (p_X12_copies μ) ∧ (∀ μ2 : Mm, μ2 = (e_X12_copies  μ) → p_X12_goesOn 53 (if 0 < ((μ2.1 53 (Int32.toNatClampNeg 23)) - (μ2.1 53 (Int32.toNatClampNeg 22))) then ((μ2.1 53 (Int32.toNatClampNeg 23)) - (μ2.1 53 (Int32.toNatClampNeg 22))) else 0) μ2)
set_option maxRecDepth 20000 in
set_option maxHeartbeats 4000000 in
theorem con_X12_goesToNoon {E : Ex} {Q : Option Value → Mm → Prop} {μ : Mm} (t : p_X12_goesToNoon   μ) (k : Q none (e_X12_goesToNoon  μ)) : Con E 7 mX12_goesToNoon [rf E 49] μ Q := by
  refine Con_J (by decide +kernel) (Nat.le_of_ble_eq_true rfl) (fun G => ?_)
  unfold e_X12_goesToNoon at k
  unfold p_X12_goesToNoon at t
  refine J_sub (ls' := [(0, rf E 49)]) [0] rfl ?_
  refine J_aload_n (dk okX12_goesToNoon 0 rfl) 0 rfl rfl ?_
  obtain ⟨s1, t⟩ := t
  refine J_callVv (As := []) (dk okX12_goesToNoon 1 rfl) ds_49 rfl vkX12_copies lkX12_346 rfl rfl (Nat.le_of_ble_eq_true rfl) (by decide) (con_X12_copies s1 ⟨rfl, ?_⟩)
  refine J_nm (fun μ2 eμ2 => ?_)
  have t := t μ2 eμ2
  refine J_aload_n (dk okX12_goesToNoon 2 rfl) 0 rfl rfl ?_
  refine J_aload_n (dk okX12_goesToNoon 3 rfl) 0 rfl rfl ?_
  refine J_getR (dk okX12_goesToNoon 4 rfl) kfX12_35 ds_49 rfl ?_
  refine J_iconst (v := 0) (dk okX12_goesToNoon 5 rfl) (by decide) ?_
  refine J_aload_n (dk okX12_goesToNoon 6 rfl) 0 rfl rfl ?_
  refine J_getR (dk okX12_goesToNoon 7 rfl) kfX12_35 ds_49 rfl ?_
  refine J_bipush (v := 23) (dk okX12_goesToNoon 8 rfl) (by decide) ?_
  refine J_iald (dk okX12_goesToNoon 9 rfl) ds_53 (by unfold vp_in; decide) ?_
  refine J_aload_n (dk okX12_goesToNoon 10 rfl) 0 rfl rfl ?_
  refine J_getR (dk okX12_goesToNoon 11 rfl) kfX12_35 ds_49 rfl ?_
  refine J_bipush (v := 22) (dk okX12_goesToNoon 12 rfl) (by decide) ?_
  refine J_iald (dk okX12_goesToNoon 13 rfl) ds_53 (by unfold vp_in; decide) ?_
  refine J_isub (dk okX12_goesToNoon 14 rfl) ?_
  refine J_mmax (dk okX12_goesToNoon 15 rfl) lkX12_284 mk_max_s mk_Math mk_max_c (by decide) (Nat.le_of_ble_eq_true rfl) ?_
  have s3 := t
  refine J_callVi (As := [rf E 53, .int (if 0 < ((μ2.1 53 (Int32.toNatClampNeg 23)) - (μ2.1 53 (Int32.toNatClampNeg 22))) then ((μ2.1 53 (Int32.toNatClampNeg 23)) - (μ2.1 53 (Int32.toNatClampNeg 22))) else 0)]) (dk okX12_goesToNoon 16 rfl) ds_49 rfl vkX12_goesOn lkX12_309 rfl rfl (Nat.le_of_ble_eq_true rfl) (by decide) (con_X12_goesOn ds_53 s3 ⟨_, rfl, ?_⟩)
  refine J_nm (fun μ4 eμ4 => ?_)
  refine J_pop (dk okX12_goesToNoon 17 rfl) rfl ?_
  subst eμ4 eμ2
  exact J_vret (dk okX12_goesToNoon 18 rfl) rfl k
/-- VotingFloorModel.later(II)I -/
noncomputable def v_X12_later (p0 : Int32) (p1 : Int32) (μ : Mm) : Int32 := (let μ1 : Mm := (upI μ 49 0 0); (if (v_X12_isOne p0 μ1) = 0 then (-1) else (if (v_X12_in (Int32.toInt64 p1) 0 60) = 0 then (-1) else (let μ5 : Mm := (e_X12_copies  μ1); (let μ7 : Mm := (e_X12_goesOn 53 p1 μ5); (let μ8 : Mm := (upI μ7 49 1 0); (let μ11 : Mm := (e_X12_enters (Int32.toInt64 (2000 + (v_X12_moment 53 μ8))) μ8); (100 + (μ11.1 53 (Int32.toNatClampNeg (7 + p0)))))))))))
noncomputable def e_X12_later (p0 : Int32) (p1 : Int32) (μ : Mm) : Mm := (let μ1 : Mm := (upI μ 49 0 0); (if (v_X12_isOne p0 μ1) = 0 then μ1 else (if (v_X12_in (Int32.toInt64 p1) 0 60) = 0 then μ1 else (let μ5 : Mm := (e_X12_copies  μ1); (let μ7 : Mm := (e_X12_goesOn 53 p1 μ5); (let μ8 : Mm := (upI μ7 49 1 0); (let μ11 : Mm := (e_X12_enters (Int32.toInt64 (2000 + (v_X12_moment 53 μ8))) μ8); μ11)))))))
def p_X12_later (p0 : Int32) (p1 : Int32)  (μ : Mm) : Prop := (∀ μ1 : Mm, μ1 = (upI μ 49 0 0) → (¬ ((v_X12_isOne p0 μ1) = 0) → (¬ ((v_X12_in (Int32.toInt64 p1) 0 60) = 0) → (p_X12_copies μ1) ∧ (∀ μ5 : Mm, μ5 = (e_X12_copies  μ1) → (p_X12_goesOn 53 p1 μ5) ∧ (∀ μ7 : Mm, μ7 = (e_X12_goesOn 53 p1 μ5) → (∀ μ8 : Mm, μ8 = (upI μ7 49 1 0) → (p_X12_moment 53 μ8) ∧ (p_X12_enters (Int32.toInt64 (2000 + (v_X12_moment 53 μ8))) μ8) ∧ (∀ μ11 : Mm, μ11 = (e_X12_enters (Int32.toInt64 (2000 + (v_X12_moment 53 μ8))) μ8) → vp_in (7 + p0) 24)))))))
set_option maxRecDepth 20000 in
set_option maxHeartbeats 4000000 in
theorem con_X12_later {E : Ex} {Q : Option Value → Mm → Prop} {p0 : Int32} {p1 : Int32} {μ : Mm} (t : p_X12_later p0 p1  μ) (k : Q (some (.int (v_X12_later p0 p1 μ))) (e_X12_later p0 p1 μ)) : Con E 7 mX12_later [rf E 49, .int p0, .int p1] μ Q := by
  refine Con_J (by decide +kernel) (Nat.le_of_ble_eq_true rfl) (fun G => ?_)
  unfold v_X12_later e_X12_later at k
  unfold p_X12_later at t
  refine J_sub (ls' := [(0, rf E 49), (1, .int p0), (2, .int p1)]) [0, 1, 2] rfl ?_
  refine J_aload_n (dk okX12_later 0 rfl) 0 rfl rfl ?_
  refine J_iconst (v := 0) (dk okX12_later 1 rfl) (by decide) ?_
  refine J_put (dk okX12_later 2 rfl) kpX12_3 ds_49 rfl rfl rfl ?_
  refine J_nm (fun μ1 eμ1 => ?_)
  have t := t μ1 eμ1
  refine J_aload_n (dk okX12_later 3 rfl) 0 rfl rfl ?_
  refine J_iload_n (dk okX12_later 4 rfl) 1 rfl rfl ?_
  refine J_callVi (As := [.int p0]) (dk okX12_later 5 rfl) ds_49 rfl vkX12_isOne lkX12_267 rfl rfl (Nat.le_of_ble_eq_true rfl) (by decide) (con_X12_isOne  ⟨_, rfl, ?_⟩)
  refine J_if_eq (tgt := 25) (dk okX12_later 6 rfl) (by decide) (fun h2 => ?_) (fun h2 => ?_)
  · refine J_iconst (v := (-1)) (dk okX12_later 13 rfl) (by decide) ?_
    subst eμ1
    (try simp only [if_pos h2] at k ⊢)
    exact J_iret (dk okX12_later 14 rfl) rfl k
  · have t := t h2
    refine J_iload_n (dk okX12_later 7 rfl) 2 rfl rfl ?_
    refine J_i2l (dk okX12_later 8 rfl) ?_
    refine J_lconst (v := 0) (dk okX12_later 9 rfl) (by decide) ?_
    refine J_ldc2 (v := 60) (dk okX12_later 10 rfl) kcX12_304 ?_
    refine J_callSi (As := [.long (Int32.toInt64 p1), .long 0, .long 60]) (dk okX12_later 11 rfl) skX12_in lkX12_114 rfl rfl (Nat.le_of_ble_eq_true rfl) (by decide) (con_X12_in  ⟨_, rfl, ?_⟩)
    refine J_if_ne (tgt := 27) (dk okX12_later 12 rfl) (by decide) (fun h3 => ?_) (fun h3 => ?_)
    · have t := t h3
      refine J_aload_n (dk okX12_later 15 rfl) 0 rfl rfl ?_
      obtain ⟨s4, t⟩ := t
      refine J_callVv (As := []) (dk okX12_later 16 rfl) ds_49 rfl vkX12_copies lkX12_346 rfl rfl (Nat.le_of_ble_eq_true rfl) (by decide) (con_X12_copies s4 ⟨rfl, ?_⟩)
      refine J_nm (fun μ5 eμ5 => ?_)
      have t := t μ5 eμ5
      refine J_aload_n (dk okX12_later 17 rfl) 0 rfl rfl ?_
      refine J_aload_n (dk okX12_later 18 rfl) 0 rfl rfl ?_
      refine J_getR (dk okX12_later 19 rfl) kfX12_35 ds_49 rfl ?_
      refine J_iload_n (dk okX12_later 20 rfl) 2 rfl rfl ?_
      obtain ⟨s6, t⟩ := t
      refine J_callVi (As := [rf E 53, .int p1]) (dk okX12_later 21 rfl) ds_49 rfl vkX12_goesOn lkX12_309 rfl rfl (Nat.le_of_ble_eq_true rfl) (by decide) (con_X12_goesOn ds_53 s6 ⟨_, rfl, ?_⟩)
      refine J_nm (fun μ7 eμ7 => ?_)
      have t := t μ7 eμ7
      refine J_pop (dk okX12_later 22 rfl) rfl ?_
      refine J_aload_n (dk okX12_later 23 rfl) 0 rfl rfl ?_
      refine J_iconst (v := 0) (dk okX12_later 24 rfl) (by decide) ?_
      refine J_put (dk okX12_later 25 rfl) kpX12_15 ds_49 rfl rfl rfl ?_
      refine J_nm (fun μ8 eμ8 => ?_)
      have t := t μ8 eμ8
      refine J_aload_n (dk okX12_later 26 rfl) 0 rfl rfl ?_
      refine J_sipush (v := 2000) (dk okX12_later 27 rfl) (by decide) ?_
      refine J_aload_n (dk okX12_later 28 rfl) 0 rfl rfl ?_
      refine J_aload_n (dk okX12_later 29 rfl) 0 rfl rfl ?_
      refine J_getR (dk okX12_later 30 rfl) kfX12_35 ds_49 rfl ?_
      obtain ⟨s9, t⟩ := t
      refine J_callVi (As := [rf E 53]) (dk okX12_later 31 rfl) ds_49 rfl vkX12_moment lkX12_275 rfl rfl (Nat.le_of_ble_eq_true rfl) (by decide) (con_X12_moment ds_53 s9 ⟨_, rfl, ?_⟩)
      refine J_iadd (dk okX12_later 32 rfl) ?_
      refine J_i2l (dk okX12_later 33 rfl) ?_
      obtain ⟨s10, t⟩ := t
      refine J_callVv (As := [.long (Int32.toInt64 (2000 + (v_X12_moment 53 μ8)))]) (dk okX12_later 34 rfl) ds_49 rfl vkX12_enters lkX12_18 rfl rfl (Nat.le_of_ble_eq_true rfl) (by decide) (con_X12_enters s10 ⟨rfl, ?_⟩)
      refine J_nm (fun μ11 eμ11 => ?_)
      have t := t μ11 eμ11
      refine J_bipush (v := 100) (dk okX12_later 35 rfl) (by decide) ?_
      refine J_aload_n (dk okX12_later 36 rfl) 0 rfl rfl ?_
      refine J_getR (dk okX12_later 37 rfl) kfX12_35 ds_49 rfl ?_
      refine J_bipush (v := 7) (dk okX12_later 38 rfl) (by decide) ?_
      refine J_iload_n (dk okX12_later 39 rfl) 1 rfl rfl ?_
      refine J_iadd (dk okX12_later 40 rfl) ?_
      have s12 := t
      refine J_iald (dk okX12_later 41 rfl) ds_53 s12 ?_
      refine J_iadd (dk okX12_later 42 rfl) ?_
      subst eμ11 eμ8 eμ7 eμ5 eμ1
      (try simp only [if_neg h2, if_neg h3] at k ⊢)
      exact J_iret (dk okX12_later 43 rfl) rfl k
    · refine J_iconst (v := (-1)) (dk okX12_later 13 rfl) (by decide) ?_
      subst eμ1
      (try simp only [if_neg h2, if_pos h3] at k ⊢)
      exact J_iret (dk okX12_later 14 rfl) rfl k
/-- VotingFloorModel.minutes(I)I -/
noncomputable def v_X12_minutes (p0 : Int32) (μ : Mm) : Int32 := (let μ1 : Mm := (upI μ 49 0 0); (if (v_X12_in (Int32.toInt64 p0) 0 60) = 0 then (-1) else (let μ4 : Mm := (e_X12_putsBy  μ1); (let μ6 : Mm := (e_X12_goesOn 52 p0 μ4); (let μ7 : Mm := (upI μ6 49 1 0); (let μ9 : Mm := (e_X12_enters (Int32.toInt64 (v_X12_goesOn 52 p0 μ4)) μ7); (let μ12 : Mm := (e_X12_enters (Int32.toInt64 (v_J6_bitCount_0f7a4 (v_X12_standingOn 52 9 μ9))) μ9); (let μ15 : Mm := (e_X12_enters (Int32.toInt64 (v_J6_bitCount_0f7a4 (v_X12_standingOn 52 (-9) μ12))) μ12); (v_X12_adds (2000 + (v_X12_moment 52 μ15)) μ15)))))))))
noncomputable def e_X12_minutes (p0 : Int32) (μ : Mm) : Mm := (let μ1 : Mm := (upI μ 49 0 0); (if (v_X12_in (Int32.toInt64 p0) 0 60) = 0 then μ1 else (let μ4 : Mm := (e_X12_putsBy  μ1); (let μ6 : Mm := (e_X12_goesOn 52 p0 μ4); (let μ7 : Mm := (upI μ6 49 1 0); (let μ9 : Mm := (e_X12_enters (Int32.toInt64 (v_X12_goesOn 52 p0 μ4)) μ7); (let μ12 : Mm := (e_X12_enters (Int32.toInt64 (v_J6_bitCount_0f7a4 (v_X12_standingOn 52 9 μ9))) μ9); (let μ15 : Mm := (e_X12_enters (Int32.toInt64 (v_J6_bitCount_0f7a4 (v_X12_standingOn 52 (-9) μ12))) μ12); (let μ18 : Mm := (e_X12_adds (2000 + (v_X12_moment 52 μ15)) μ15); μ18)))))))))
def p_X12_minutes (p0 : Int32)  (μ : Mm) : Prop := (∀ μ1 : Mm, μ1 = (upI μ 49 0 0) → (¬ ((v_X12_in (Int32.toInt64 p0) 0 60) = 0) → (p_X12_putsBy μ1) ∧ (∀ μ4 : Mm, μ4 = (e_X12_putsBy  μ1) → (p_X12_goesOn 52 p0 μ4) ∧ (∀ μ6 : Mm, μ6 = (e_X12_goesOn 52 p0 μ4) → (∀ μ7 : Mm, μ7 = (upI μ6 49 1 0) → (p_X12_enters (Int32.toInt64 (v_X12_goesOn 52 p0 μ4)) μ7) ∧ (∀ μ9 : Mm, μ9 = (e_X12_enters (Int32.toInt64 (v_X12_goesOn 52 p0 μ4)) μ7) → (p_X12_standingOn 52 9 μ9) ∧ (p_X12_enters (Int32.toInt64 (v_J6_bitCount_0f7a4 (v_X12_standingOn 52 9 μ9))) μ9) ∧ (∀ μ12 : Mm, μ12 = (e_X12_enters (Int32.toInt64 (v_J6_bitCount_0f7a4 (v_X12_standingOn 52 9 μ9))) μ9) → (p_X12_standingOn 52 (-9) μ12) ∧ (p_X12_enters (Int32.toInt64 (v_J6_bitCount_0f7a4 (v_X12_standingOn 52 (-9) μ12))) μ12) ∧ (∀ μ15 : Mm, μ15 = (e_X12_enters (Int32.toInt64 (v_J6_bitCount_0f7a4 (v_X12_standingOn 52 (-9) μ12))) μ12) → (p_X12_moment 52 μ15) ∧ p_X12_adds (2000 + (v_X12_moment 52 μ15)) μ15))))))))
set_option maxRecDepth 20000 in
set_option maxHeartbeats 4000000 in
theorem con_X12_minutes {E : Ex} {Q : Option Value → Mm → Prop} {p0 : Int32} {μ : Mm} (t : p_X12_minutes p0  μ) (k : Q (some (.int (v_X12_minutes p0 μ))) (e_X12_minutes p0 μ)) : Con E 7 mX12_minutes [rf E 49, .int p0] μ Q := by
  refine Con_J (by decide +kernel) (Nat.le_of_ble_eq_true rfl) (fun G => ?_)
  unfold v_X12_minutes e_X12_minutes at k
  unfold p_X12_minutes at t
  refine J_sub (ls' := [(0, rf E 49), (1, .int p0)]) [0, 1] rfl ?_
  refine J_aload_n (dk okX12_minutes 0 rfl) 0 rfl rfl ?_
  refine J_iconst (v := 0) (dk okX12_minutes 1 rfl) (by decide) ?_
  refine J_put (dk okX12_minutes 2 rfl) kpX12_3 ds_49 rfl rfl rfl ?_
  refine J_nm (fun μ1 eμ1 => ?_)
  have t := t μ1 eμ1
  refine J_iload_n (dk okX12_minutes 3 rfl) 1 rfl rfl ?_
  refine J_i2l (dk okX12_minutes 4 rfl) ?_
  refine J_lconst (v := 0) (dk okX12_minutes 5 rfl) (by decide) ?_
  refine J_ldc2 (v := 60) (dk okX12_minutes 6 rfl) kcX12_304 ?_
  refine J_callSi (As := [.long (Int32.toInt64 p0), .long 0, .long 60]) (dk okX12_minutes 7 rfl) skX12_in lkX12_114 rfl rfl (Nat.le_of_ble_eq_true rfl) (by decide) (con_X12_in  ⟨_, rfl, ?_⟩)
  refine J_if_ne (tgt := 19) (dk okX12_minutes 8 rfl) (by decide) (fun h2 => ?_) (fun h2 => ?_)
  · have t := t h2
    refine J_aload_n (dk okX12_minutes 11 rfl) 0 rfl rfl ?_
    obtain ⟨s3, t⟩ := t
    refine J_callVv (As := []) (dk okX12_minutes 12 rfl) ds_49 rfl vkX12_putsBy lkX12_306 rfl rfl (Nat.le_of_ble_eq_true rfl) (by decide) (con_X12_putsBy s3 ⟨rfl, ?_⟩)
    refine J_nm (fun μ4 eμ4 => ?_)
    have t := t μ4 eμ4
    refine J_aload_n (dk okX12_minutes 13 rfl) 0 rfl rfl ?_
    refine J_aload_n (dk okX12_minutes 14 rfl) 0 rfl rfl ?_
    refine J_getR (dk okX12_minutes 15 rfl) kfX12_32 ds_49 rfl ?_
    refine J_iload_n (dk okX12_minutes 16 rfl) 1 rfl rfl ?_
    obtain ⟨s5, t⟩ := t
    refine J_callVi (As := [rf E 52, .int p0]) (dk okX12_minutes 17 rfl) ds_49 rfl vkX12_goesOn lkX12_309 rfl rfl (Nat.le_of_ble_eq_true rfl) (by decide) (con_X12_goesOn ds_52 s5 ⟨_, rfl, ?_⟩)
    refine J_nm (fun μ6 eμ6 => ?_)
    have t := t μ6 eμ6
    refine J_istore_n (ls' := [(2, _), (0, _), (1, _)]) (dk okX12_minutes 18 rfl) rfl (by decide) rfl ?_
    refine J_aload_n (dk okX12_minutes 19 rfl) 1 rfl rfl ?_
    refine J_iconst (v := 0) (dk okX12_minutes 20 rfl) (by decide) ?_
    refine J_put (dk okX12_minutes 21 rfl) kpX12_15 ds_49 rfl rfl rfl ?_
    refine J_nm (fun μ7 eμ7 => ?_)
    have t := t μ7 eμ7
    refine J_aload_n (dk okX12_minutes 22 rfl) 1 rfl rfl ?_
    refine J_iload_n (dk okX12_minutes 23 rfl) 0 rfl rfl ?_
    refine J_i2l (dk okX12_minutes 24 rfl) ?_
    obtain ⟨s8, t⟩ := t
    refine J_callVv (As := [.long (Int32.toInt64 (v_X12_goesOn 52 p0 μ4))]) (dk okX12_minutes 25 rfl) ds_49 rfl vkX12_enters lkX12_18 rfl rfl (Nat.le_of_ble_eq_true rfl) (by decide) (con_X12_enters s8 ⟨rfl, ?_⟩)
    refine J_nm (fun μ9 eμ9 => ?_)
    have t := t μ9 eμ9
    refine J_aload_n (dk okX12_minutes 26 rfl) 1 rfl rfl ?_
    refine J_aload_n (dk okX12_minutes 27 rfl) 1 rfl rfl ?_
    refine J_aload_n (dk okX12_minutes 28 rfl) 1 rfl rfl ?_
    refine J_getR (dk okX12_minutes 29 rfl) kfX12_32 ds_49 rfl ?_
    refine J_bipush (v := 9) (dk okX12_minutes 30 rfl) (by decide) ?_
    obtain ⟨s10, t⟩ := t
    refine J_callVi (As := [rf E 52, .int 9]) (dk okX12_minutes 31 rfl) ds_49 rfl vkX12_standingOn lkX12_312 rfl rfl (Nat.le_of_ble_eq_true rfl) (by decide) (con_X12_standingOn ds_52 s10 ⟨_, rfl, ?_⟩)
    refine J_callSi (As := [.int (v_X12_standingOn 52 9 μ9)]) (dk okX12_minutes 32 rfl) skJ6_bitCount_0f7a4 lkX12_299 rfl rfl (Nat.le_of_ble_eq_true rfl) (by decide) (con_J6_bitCount_0f7a4  ⟨_, rfl, ?_⟩)
    refine J_i2l (dk okX12_minutes 33 rfl) ?_
    obtain ⟨s11, t⟩ := t
    refine J_callVv (As := [.long (Int32.toInt64 (v_J6_bitCount_0f7a4 (v_X12_standingOn 52 9 μ9)))]) (dk okX12_minutes 34 rfl) ds_49 rfl vkX12_enters lkX12_18 rfl rfl (Nat.le_of_ble_eq_true rfl) (by decide) (con_X12_enters s11 ⟨rfl, ?_⟩)
    refine J_nm (fun μ12 eμ12 => ?_)
    have t := t μ12 eμ12
    refine J_aload_n (dk okX12_minutes 35 rfl) 1 rfl rfl ?_
    refine J_aload_n (dk okX12_minutes 36 rfl) 1 rfl rfl ?_
    refine J_aload_n (dk okX12_minutes 37 rfl) 1 rfl rfl ?_
    refine J_getR (dk okX12_minutes 38 rfl) kfX12_32 ds_49 rfl ?_
    refine J_bipush (v := (-9)) (dk okX12_minutes 39 rfl) (by decide) ?_
    obtain ⟨s13, t⟩ := t
    refine J_callVi (As := [rf E 52, .int (-9)]) (dk okX12_minutes 40 rfl) ds_49 rfl vkX12_standingOn lkX12_312 rfl rfl (Nat.le_of_ble_eq_true rfl) (by decide) (con_X12_standingOn ds_52 s13 ⟨_, rfl, ?_⟩)
    refine J_callSi (As := [.int (v_X12_standingOn 52 (-9) μ12)]) (dk okX12_minutes 41 rfl) skJ6_bitCount_0f7a4 lkX12_299 rfl rfl (Nat.le_of_ble_eq_true rfl) (by decide) (con_J6_bitCount_0f7a4  ⟨_, rfl, ?_⟩)
    refine J_i2l (dk okX12_minutes 42 rfl) ?_
    obtain ⟨s14, t⟩ := t
    refine J_callVv (As := [.long (Int32.toInt64 (v_J6_bitCount_0f7a4 (v_X12_standingOn 52 (-9) μ12)))]) (dk okX12_minutes 43 rfl) ds_49 rfl vkX12_enters lkX12_18 rfl rfl (Nat.le_of_ble_eq_true rfl) (by decide) (con_X12_enters s14 ⟨rfl, ?_⟩)
    refine J_nm (fun μ15 eμ15 => ?_)
    have t := t μ15 eμ15
    refine J_aload_n (dk okX12_minutes 44 rfl) 1 rfl rfl ?_
    refine J_sipush (v := 2000) (dk okX12_minutes 45 rfl) (by decide) ?_
    refine J_aload_n (dk okX12_minutes 46 rfl) 1 rfl rfl ?_
    refine J_aload_n (dk okX12_minutes 47 rfl) 1 rfl rfl ?_
    refine J_getR (dk okX12_minutes 48 rfl) kfX12_32 ds_49 rfl ?_
    obtain ⟨s16, t⟩ := t
    refine J_callVi (As := [rf E 52]) (dk okX12_minutes 49 rfl) ds_49 rfl vkX12_moment lkX12_275 rfl rfl (Nat.le_of_ble_eq_true rfl) (by decide) (con_X12_moment ds_52 s16 ⟨_, rfl, ?_⟩)
    refine J_iadd (dk okX12_minutes 50 rfl) ?_
    have s17 := t
    refine J_callVi (As := [.int (2000 + (v_X12_moment 52 μ15))]) (dk okX12_minutes 51 rfl) ds_49 rfl vkX12_adds lkX12_287 rfl rfl (Nat.le_of_ble_eq_true rfl) (by decide) (con_X12_adds s17 ⟨_, rfl, ?_⟩)
    refine J_nm (fun μ18 eμ18 => ?_)
    subst eμ18 eμ15 eμ12 eμ9 eμ7 eμ6 eμ4 eμ1
    (try simp only [if_neg h2] at k ⊢)
    exact J_iret (dk okX12_minutes 52 rfl) rfl k
  · refine J_iconst (v := (-1)) (dk okX12_minutes 9 rfl) (by decide) ?_
    subst eμ1
    (try simp only [if_pos h2] at k ⊢)
    exact J_iret (dk okX12_minutes 10 rfl) rfl k
/-- VotingFloorModel.readsAct()Z -/
noncomputable def v_X12_readsAct  (μ : Mm) : Int32 := (let μ2 : Mm := (e_X12_takesOf 6 μ); (let μ4 : Mm := (upI μ2 63 (Int32.toNatClampNeg (μ.1 49 29)) (v_X12_takesOf 6 μ)); (let μ5 : Mm := (upI μ4 49 29 ((μ4.1 49 29) + 1)); (let μ10 : Mm := (if 0 ≤ (μ5.1 63 (Int32.toNatClampNeg (μ.1 49 29))) then ((e_X12_number 1 μ5)) else μ5 : Mm); (let μ12 : Mm := (upI μ10 64 (Int32.toNatClampNeg (μ.1 49 29)) (if 0 ≤ (μ5.1 63 (Int32.toNatClampNeg (μ.1 49 29))) then (v_X12_number 1 μ5) else (-1) : Int32)); (if (μ12.1 64 (Int32.toNatClampNeg (μ.1 49 29))) < 0 then 0 else (if 2 ≤ (μ12.1 63 (Int32.toNatClampNeg (μ.1 49 29))) then (if (μ12.1 63 (Int32.toNatClampNeg (μ.1 49 29))) = 2 then (let μ23 : Mm := (e_X12_number 1 μ12); (let μ25 : Mm := (upI μ23 65 (Int32.toNatClampNeg (μ.1 49 29)) (v_X12_number 1 μ12)); (if (μ25.1 65 (Int32.toNatClampNeg (μ.1 49 29))) < 0 then 0 else 1 : Int32))) else (v_X12_readsSigned (if (μ12.1 63 (Int32.toNatClampNeg (μ.1 49 29))) = 3 then 2 else 1 : Nat) μ12)) else 1)))))))
noncomputable def e_X12_readsAct  (μ : Mm) : Mm := (let μ2 : Mm := (e_X12_takesOf 6 μ); (let μ4 : Mm := (upI μ2 63 (Int32.toNatClampNeg (μ.1 49 29)) (v_X12_takesOf 6 μ)); (let μ5 : Mm := (upI μ4 49 29 ((μ4.1 49 29) + 1)); (let μ10 : Mm := (if 0 ≤ (μ5.1 63 (Int32.toNatClampNeg (μ.1 49 29))) then ((e_X12_number 1 μ5)) else μ5 : Mm); (let μ12 : Mm := (upI μ10 64 (Int32.toNatClampNeg (μ.1 49 29)) (if 0 ≤ (μ5.1 63 (Int32.toNatClampNeg (μ.1 49 29))) then (v_X12_number 1 μ5) else (-1) : Int32)); (if (μ12.1 64 (Int32.toNatClampNeg (μ.1 49 29))) < 0 then μ12 else (if 2 ≤ (μ12.1 63 (Int32.toNatClampNeg (μ.1 49 29))) then (if (μ12.1 63 (Int32.toNatClampNeg (μ.1 49 29))) = 2 then (let μ23 : Mm := (e_X12_number 1 μ12); (let μ25 : Mm := (upI μ23 65 (Int32.toNatClampNeg (μ.1 49 29)) (v_X12_number 1 μ12)); μ25)) else (let μ33 : Mm := (e_X12_readsSigned (if (μ12.1 63 (Int32.toNatClampNeg (μ.1 49 29))) = 3 then 2 else 1 : Nat) μ12); (let μ35 : Mm := (upI μ33 65 (Int32.toNatClampNeg (μ.1 49 29)) (μ33.1 49 13)); μ35))) else μ12)))))))
def p_X12_readsAct   (μ : Mm) : Prop := (p_X12_takesOf 6 μ) ∧ (∀ μ2 : Mm, μ2 = (e_X12_takesOf 6 μ) → (vp_in (μ.1 49 29) 60) ∧ (∀ μ4 : Mm, μ4 = (upI μ2 63 (Int32.toNatClampNeg (μ.1 49 29)) (v_X12_takesOf 6 μ)) → (∀ μ5 : Mm, μ5 = (upI μ4 49 29 ((μ4.1 49 29) + 1)) → (vp_in (μ.1 49 29) 60) ∧ ((0 ≤ (μ5.1 63 (Int32.toNatClampNeg (μ.1 49 29))) → p_X12_number 1 μ5)) ∧ (∀ μ10 : Mm, μ10 = (if 0 ≤ (μ5.1 63 (Int32.toNatClampNeg (μ.1 49 29))) then ((e_X12_number 1 μ5)) else μ5 : Mm) → (vp_in (μ.1 49 29) 60) ∧ (∀ μ12 : Mm, μ12 = (upI μ10 64 (Int32.toNatClampNeg (μ.1 49 29)) (if 0 ≤ (μ5.1 63 (Int32.toNatClampNeg (μ.1 49 29))) then (v_X12_number 1 μ5) else (-1) : Int32)) → (vp_in (μ.1 49 29) 60) ∧ (((μ12.1 64 (Int32.toNatClampNeg (μ.1 49 29))) < 0 → vp_in (μ.1 49 29) 60) ∧ (¬ ((μ12.1 64 (Int32.toNatClampNeg (μ.1 49 29))) < 0) → (vp_in (μ.1 49 29) 60) ∧ ((2 ≤ (μ12.1 63 (Int32.toNatClampNeg (μ.1 49 29))) → (vp_in (μ.1 49 29) 60) ∧ (((μ12.1 63 (Int32.toNatClampNeg (μ.1 49 29))) = 2 → (p_X12_number 1 μ12) ∧ (∀ μ23 : Mm, μ23 = (e_X12_number 1 μ12) → (vp_in (μ.1 49 29) 60) ∧ (∀ μ25 : Mm, μ25 = (upI μ23 65 (Int32.toNatClampNeg (μ.1 49 29)) (v_X12_number 1 μ12)) → vp_in (μ.1 49 29) 60))) ∧ (¬ ((μ12.1 63 (Int32.toNatClampNeg (μ.1 49 29))) = 2) → (vp_in (μ.1 49 29) 60) ∧ (p_X12_readsSigned (if (μ12.1 63 (Int32.toNatClampNeg (μ.1 49 29))) = 3 then 2 else 1 : Nat) μ12) ∧ (∀ μ33 : Mm, μ33 = (e_X12_readsSigned (if (μ12.1 63 (Int32.toNatClampNeg (μ.1 49 29))) = 3 then 2 else 1 : Nat) μ12) → (vp_in (μ.1 49 29) 60) ∧ (∀ μ35 : Mm, μ35 = (upI μ33 65 (Int32.toNatClampNeg (μ.1 49 29)) (μ33.1 49 13)) → narrow .boolean (.int (v_X12_readsSigned (if (μ12.1 63 (Int32.toNatClampNeg (μ.1 49 29))) = 3 then 2 else 1 : Nat) μ12)) = .int (v_X12_readsSigned (if (μ12.1 63 (Int32.toNatClampNeg (μ.1 49 29))) = 3 then 2 else 1 : Nat) μ12)))))) ∧ (¬ (2 ≤ (μ12.1 63 (Int32.toNatClampNeg (μ.1 49 29)))) → vp_in (μ.1 49 29) 60)))))))))
set_option maxRecDepth 20000 in
set_option maxHeartbeats 4000000 in
theorem con_X12_readsAct {E : Ex} {Q : Option Value → Mm → Prop} {μ : Mm} (t : p_X12_readsAct   μ) (k : Q (some (.int (v_X12_readsAct  μ))) (e_X12_readsAct  μ)) : Con E 7 mX12_readsAct [rf E 49] μ Q := by
  refine Con_J (by decide +kernel) (Nat.le_of_ble_eq_true rfl) (fun G => ?_)
  unfold v_X12_readsAct e_X12_readsAct at k
  unfold p_X12_readsAct at t
  refine J_sub (ls' := [(0, rf E 49)]) [0] rfl ?_
  refine J_aload_n (dk okX12_readsAct 0 rfl) 0 rfl rfl ?_
  refine J_getI (dk okX12_readsAct 1 rfl) kfX12_330 ds_49 rfl ?_
  refine J_istore_n (ls' := [(1, _), (0, _)]) (dk okX12_readsAct 2 rfl) rfl (by decide) rfl ?_
  refine J_aload_n (dk okX12_readsAct 3 rfl) 1 rfl rfl ?_
  refine J_getR (dk okX12_readsAct 4 rfl) kfX12_65 ds_49 rfl ?_
  refine J_iload_n (dk okX12_readsAct 5 rfl) 0 rfl rfl ?_
  refine J_aload_n (dk okX12_readsAct 6 rfl) 1 rfl rfl ?_
  refine J_ldc_wS (i := 6) (tx := "noslt") (dk okX12_readsAct 7 rfl) (by decide +kernel) ?_
  obtain ⟨s1, t⟩ := t
  refine J_callVi (As := [sf E 6]) (dk okX12_readsAct 8 rfl) ds_49 rfl vkX12_takesOf lkX12_176 rfl rfl (Nat.le_of_ble_eq_true rfl) (by decide) (con_X12_takesOf (by decide) s1 ⟨_, rfl, ?_⟩)
  refine J_nm (fun μ2 eμ2 => ?_)
  have t := t μ2 eμ2
  obtain ⟨s3, t⟩ := t
  refine J_iast (dk okX12_readsAct 9 rfl) ds_63 s3 ?_
  refine J_nm (fun μ4 eμ4 => ?_)
  have t := t μ4 eμ4
  refine J_aload_n (dk okX12_readsAct 10 rfl) 1 rfl rfl ?_
  refine J_dup (dk okX12_readsAct 11 rfl) rfl ?_
  refine J_getI (dk okX12_readsAct 12 rfl) kfX12_330 ds_49 rfl ?_
  refine J_iconst (v := 1) (dk okX12_readsAct 13 rfl) (by decide) ?_
  refine J_iadd (dk okX12_readsAct 14 rfl) ?_
  refine J_put (dk okX12_readsAct 15 rfl) kpX12_330 ds_49 rfl rfl rfl ?_
  refine J_nm (fun μ5 eμ5 => ?_)
  have t := t μ5 eμ5
  refine J_aload_n (dk okX12_readsAct 16 rfl) 1 rfl rfl ?_
  refine J_getR (dk okX12_readsAct 17 rfl) kfX12_68 ds_49 rfl ?_
  refine J_iload_n (dk okX12_readsAct 18 rfl) 0 rfl rfl ?_
  refine J_aload_n (dk okX12_readsAct 19 rfl) 1 rfl rfl ?_
  refine J_getR (dk okX12_readsAct 20 rfl) kfX12_65 ds_49 rfl ?_
  refine J_iload_n (dk okX12_readsAct 21 rfl) 0 rfl rfl ?_
  obtain ⟨s6, t⟩ := t
  refine J_iald (dk okX12_readsAct 22 rfl) ds_63 s6 ?_
  obtain ⟨t9, t⟩ := t
  have K40 : J E G 7 mX12_readsAct Q 51 [(0, rf E 49), (1, .int (μ.1 49 29))] [.int (if 0 ≤ (μ5.1 63 (Int32.toNatClampNeg (μ.1 49 29))) then (v_X12_number 1 μ5) else (-1) : Int32), .int (μ.1 49 29), rf E 64] (if 0 ≤ (μ5.1 63 (Int32.toNatClampNeg (μ.1 49 29))) then ((e_X12_number 1 μ5)) else μ5 : Mm) := by
    refine J_nm (fun μ10 eμ10 => ?_)
    have t := t μ10 eμ10
    obtain ⟨s11, t⟩ := t
    refine J_iast (dk okX12_readsAct 29 rfl) ds_64 s11 ?_
    refine J_nm (fun μ12 eμ12 => ?_)
    have t := t μ12 eμ12
    refine J_aload_n (dk okX12_readsAct 30 rfl) 0 rfl rfl ?_
    refine J_getR (dk okX12_readsAct 31 rfl) kfX12_68 ds_49 rfl ?_
    refine J_iload_n (dk okX12_readsAct 32 rfl) 1 rfl rfl ?_
    obtain ⟨s13, t⟩ := t
    refine J_iald (dk okX12_readsAct 33 rfl) ds_64 s13 ?_
    refine J_if_lt (tgt := 71) (dk okX12_readsAct 34 rfl) (by decide) (fun h14 => ?_) (fun h14 => ?_)
    · have t := t.1 h14
      refine J_aload_n (dk okX12_readsAct 41 rfl) 0 rfl rfl ?_
      refine J_getR (dk okX12_readsAct 42 rfl) kfX12_68 ds_49 rfl ?_
      refine J_iload_n (dk okX12_readsAct 43 rfl) 1 rfl rfl ?_
      have s15 := t
      refine J_iald (dk okX12_readsAct 44 rfl) ds_64 s15 ?_
      refine J_if_lt (tgt := 84) (dk okX12_readsAct 45 rfl) (by decide) (fun h17 => ?_) (fun h17 => absurd h14 h17)
      refine J_iconst (v := 0) (dk okX12_readsAct 48 rfl) (by decide) ?_
      subst eμ12 eμ10 eμ5 eμ4 eμ2
      (try simp only [if_pos h14] at k ⊢)
      exact J_zret (dk okX12_readsAct 49 rfl) rfl rfl k
    · have t := t.2 h14
      refine J_aload_n (dk okX12_readsAct 35 rfl) 0 rfl rfl ?_
      refine J_getR (dk okX12_readsAct 36 rfl) kfX12_65 ds_49 rfl ?_
      refine J_iload_n (dk okX12_readsAct 37 rfl) 1 rfl rfl ?_
      obtain ⟨s18, t⟩ := t
      refine J_iald (dk okX12_readsAct 38 rfl) ds_63 s18 ?_
      refine J_iconst (v := 2) (dk okX12_readsAct 39 rfl) (by decide) ?_
      refine J_icmp_ge (tgt := 86) (dk okX12_readsAct 40 rfl) (by decide) (fun h19 => ?_) (fun h19 => ?_)
      · have t := t.1 h19
        refine J_aload_n (dk okX12_readsAct 50 rfl) 0 rfl rfl ?_
        refine J_getR (dk okX12_readsAct 51 rfl) kfX12_65 ds_49 rfl ?_
        refine J_iload_n (dk okX12_readsAct 52 rfl) 1 rfl rfl ?_
        obtain ⟨s20, t⟩ := t
        refine J_iald (dk okX12_readsAct 53 rfl) ds_63 s20 ?_
        refine J_iconst (v := 2) (dk okX12_readsAct 54 rfl) (by decide) ?_
        refine J_icmp_ne (tgt := 122) (dk okX12_readsAct 55 rfl) (by decide) (fun h21 => ?_) (fun h21 => ?_)
        · have t := t.2 h21
          refine J_aload_n (dk okX12_readsAct 72 rfl) 0 rfl rfl ?_
          refine J_aload_n (dk okX12_readsAct 73 rfl) 0 rfl rfl ?_
          refine J_getR (dk okX12_readsAct 74 rfl) kfX12_65 ds_49 rfl ?_
          refine J_iload_n (dk okX12_readsAct 75 rfl) 1 rfl rfl ?_
          obtain ⟨s29, t⟩ := t
          refine J_iald (dk okX12_readsAct 76 rfl) ds_63 s29 ?_
          refine J_iconst (v := 3) (dk okX12_readsAct 77 rfl) (by decide) ?_
          have K31 : J E G 7 mX12_readsAct Q 141 [(0, rf E 49), (1, .int (μ.1 49 29))] [sf E (if (μ12.1 63 (Int32.toNatClampNeg (μ.1 49 29))) = 3 then 2 else 1 : Nat), rf E 49] μ12 := by
            obtain ⟨s32, t⟩ := t
            refine J_callVi (As := [sf E (if (μ12.1 63 (Int32.toNatClampNeg (μ.1 49 29))) = 3 then 2 else 1 : Nat)]) (dk okX12_readsAct 82 rfl) ds_49 rfl vkX12_readsSigned lkX12_195 rfl rfl (Nat.le_of_ble_eq_true rfl) (by decide) (con_X12_readsSigned (by (repeat' split) <;> decide) s32 ⟨_, rfl, ?_⟩)
            refine J_nm (fun μ33 eμ33 => ?_)
            have t := t μ33 eμ33
            refine J_istore_n (ls' := [(2, _), (0, _), (1, _)]) (dk okX12_readsAct 83 rfl) rfl (by decide) rfl ?_
            refine J_aload_n (dk okX12_readsAct 84 rfl) 1 rfl rfl ?_
            refine J_getR (dk okX12_readsAct 85 rfl) kfX12_71 ds_49 rfl ?_
            refine J_iload_n (dk okX12_readsAct 86 rfl) 2 rfl rfl ?_
            refine J_aload_n (dk okX12_readsAct 87 rfl) 1 rfl rfl ?_
            refine J_getI (dk okX12_readsAct 88 rfl) kfX12_184 ds_49 rfl ?_
            obtain ⟨s34, t⟩ := t
            refine J_iast (dk okX12_readsAct 89 rfl) ds_65 s34 ?_
            refine J_nm (fun μ35 eμ35 => ?_)
            have t := t μ35 eμ35
            refine J_iload_n (dk okX12_readsAct 90 rfl) 0 rfl rfl ?_
            have s36 := t
            subst eμ35 eμ33 eμ12 eμ10 eμ5 eμ4 eμ2
            (try simp only [if_neg h14, if_pos h19, if_neg h21] at k ⊢)
            exact J_zret (dk okX12_readsAct 91 rfl) rfl s36 k
          refine J_icmp_ne (tgt := 139) (dk okX12_readsAct 78 rfl) (by decide) (fun h30 => ?_) (fun h30 => ?_)
          · refine J_ldcS (i := 1) (tx := "-+") (dk okX12_readsAct 81 rfl) (by decide +kernel) ?_
            refine J_sub (ls' := [(0, _), (1, _)]) [0, 1] rfl ?_
            (try simp only [if_neg h30] at K31 ⊢); exact K31
          · refine J_ldc_wS (i := 2) (tx := "we") (dk okX12_readsAct 79 rfl) (by decide +kernel) ?_
            refine J_goto (tgt := 141) (dk okX12_readsAct 80 rfl) (by decide) ?_
            refine J_sub (ls' := [(0, _), (1, _)]) [0, 1] rfl ?_
            (try simp only [if_pos h30] at K31 ⊢); exact K31
        · have t := t.1 h21
          refine J_aload_n (dk okX12_readsAct 56 rfl) 0 rfl rfl ?_
          refine J_getR (dk okX12_readsAct 57 rfl) kfX12_71 ds_49 rfl ?_
          refine J_iload_n (dk okX12_readsAct 58 rfl) 1 rfl rfl ?_
          refine J_aload_n (dk okX12_readsAct 59 rfl) 0 rfl rfl ?_
          refine J_iconst (v := 1) (dk okX12_readsAct 60 rfl) (by decide) ?_
          obtain ⟨s22, t⟩ := t
          refine J_callVi (As := [.int 1]) (dk okX12_readsAct 61 rfl) ds_49 rfl vkX12_number lkX12_180 rfl rfl (Nat.le_of_ble_eq_true rfl) (by decide) (con_X12_number s22 ⟨_, rfl, ?_⟩)
          refine J_nm (fun μ23 eμ23 => ?_)
          have t := t μ23 eμ23
          obtain ⟨s24, t⟩ := t
          refine J_iast (dk okX12_readsAct 62 rfl) ds_65 s24 ?_
          refine J_nm (fun μ25 eμ25 => ?_)
          have t := t μ25 eμ25
          refine J_aload_n (dk okX12_readsAct 63 rfl) 0 rfl rfl ?_
          refine J_getR (dk okX12_readsAct 64 rfl) kfX12_71 ds_49 rfl ?_
          refine J_iload_n (dk okX12_readsAct 65 rfl) 1 rfl rfl ?_
          have s26 := t
          refine J_iald (dk okX12_readsAct 66 rfl) ds_65 s26 ?_
          have K28 : J E G 7 mX12_readsAct Q 121 [] [.int (if (μ25.1 65 (Int32.toNatClampNeg (μ.1 49 29))) < 0 then 0 else 1 : Int32)] μ25 := by
            subst eμ25 eμ23 eμ12 eμ10 eμ5 eμ4 eμ2
            (try simp only [if_neg h14, if_pos h19, if_pos h21] at k ⊢)
            exact J_zret (dk okX12_readsAct 71 rfl) rfl (by (repeat' split) <;> first | rfl | (simp only [*]; rfl)) k
          refine J_if_lt (tgt := 120) (dk okX12_readsAct 67 rfl) (by decide) (fun h27 => ?_) (fun h27 => ?_)
          · refine J_iconst (v := 0) (dk okX12_readsAct 70 rfl) (by decide) ?_
            refine J_sub (ls' := []) [] rfl ?_
            (try simp only [if_pos h27] at K28 ⊢); exact K28
          · refine J_iconst (v := 1) (dk okX12_readsAct 68 rfl) (by decide) ?_
            refine J_goto (tgt := 121) (dk okX12_readsAct 69 rfl) (by decide) ?_
            refine J_sub (ls' := []) [] rfl ?_
            (try simp only [if_neg h27] at K28 ⊢); exact K28
      · have t := t.2 h19
        refine J_aload_n (dk okX12_readsAct 41 rfl) 0 rfl rfl ?_
        refine J_getR (dk okX12_readsAct 42 rfl) kfX12_68 ds_49 rfl ?_
        refine J_iload_n (dk okX12_readsAct 43 rfl) 1 rfl rfl ?_
        have s37 := t
        refine J_iald (dk okX12_readsAct 44 rfl) ds_64 s37 ?_
        refine J_if_lt (tgt := 84) (dk okX12_readsAct 45 rfl) (by decide) (fun h39 => absurd h39 h14) (fun h39 => ?_)
        refine J_iconst (v := 1) (dk okX12_readsAct 46 rfl) (by decide) ?_
        refine J_goto (tgt := 85) (dk okX12_readsAct 47 rfl) (by decide) ?_
        subst eμ12 eμ10 eμ5 eμ4 eμ2
        (try simp only [if_neg h14, if_neg h19] at k ⊢)
        exact J_zret (dk okX12_readsAct 49 rfl) rfl rfl k
  have t := t9
  refine J_if_ge (tgt := 46) (dk okX12_readsAct 23 rfl) (by decide) (fun h7 => ?_) (fun h7 => ?_)
  · have t := t h7
    refine J_aload_n (dk okX12_readsAct 26 rfl) 1 rfl rfl ?_
    refine J_iconst (v := 1) (dk okX12_readsAct 27 rfl) (by decide) ?_
    have s8 := t
    refine J_callVi (As := [.int 1]) (dk okX12_readsAct 28 rfl) ds_49 rfl vkX12_number lkX12_180 rfl rfl (Nat.le_of_ble_eq_true rfl) (by decide) (con_X12_number s8 ⟨_, rfl, ?_⟩)
    refine J_nm (fun μ9 eμ9 => ?_)
    subst eμ9
    refine J_sub (ls' := [(0, _), (1, _)]) [1, 0] rfl ?_
    (try simp only [if_pos h7] at K40 ⊢); exact K40
  · refine J_iconst (v := (-1)) (dk okX12_readsAct 24 rfl) (by decide) ?_
    refine J_goto (tgt := 51) (dk okX12_readsAct 25 rfl) (by decide) ?_
    refine J_sub (ls' := [(0, _), (1, _)]) [1, 0] rfl ?_
    (try simp only [if_neg h7] at K40 ⊢); exact K40
/-- VotingFloorModel.readsOne()Z -/
noncomputable def v_X12_readsOne  (μ : Mm) : Int32 := (if ((μ.1 49 3) + (μ.1 49 16)) = 7 then 0 else (let μ3 : Mm := (e_X12_digitIn 1 9 μ); (let μ5 : Mm := (upI μ3 55 (Int32.toNatClampNeg (μ.1 49 16)) (v_X12_digitIn 1 9 μ)); (if (μ5.1 55 (Int32.toNatClampNeg (μ5.1 49 16))) < 0 then 0 else (if (v_X12_readsSigned 1 μ5) = 0 then 0 else 1)))))
noncomputable def e_X12_readsOne  (μ : Mm) : Mm := (if ((μ.1 49 3) + (μ.1 49 16)) = 7 then μ else (let μ3 : Mm := (e_X12_digitIn 1 9 μ); (let μ5 : Mm := (upI μ3 55 (Int32.toNatClampNeg (μ.1 49 16)) (v_X12_digitIn 1 9 μ)); (if (μ5.1 55 (Int32.toNatClampNeg (μ5.1 49 16))) < 0 then μ5 else (let μ9 : Mm := (e_X12_readsSigned 1 μ5); (if (v_X12_readsSigned 1 μ5) = 0 then μ9 else (let μ12 : Mm := (upI μ9 56 (Int32.toNatClampNeg (μ9.1 49 16)) (μ9.1 49 13)); (let μ13 : Mm := (upI μ12 49 16 ((μ12.1 49 16) + 1)); μ13))))))))
def p_X12_readsOne   (μ : Mm) : Prop := (¬ (((μ.1 49 3) + (μ.1 49 16)) = 7) → (p_X12_digitIn 1 9 μ) ∧ (∀ μ3 : Mm, μ3 = (e_X12_digitIn 1 9 μ) → (vp_in (μ.1 49 16) 7) ∧ (∀ μ5 : Mm, μ5 = (upI μ3 55 (Int32.toNatClampNeg (μ.1 49 16)) (v_X12_digitIn 1 9 μ)) → (vp_in (μ5.1 49 16) 7) ∧ (¬ ((μ5.1 55 (Int32.toNatClampNeg (μ5.1 49 16))) < 0) → (p_X12_readsSigned 1 μ5) ∧ (∀ μ9 : Mm, μ9 = (e_X12_readsSigned 1 μ5) → (¬ ((v_X12_readsSigned 1 μ5) = 0) → vp_in (μ9.1 49 16) 7))))))
set_option maxRecDepth 20000 in
set_option maxHeartbeats 4000000 in
theorem con_X12_readsOne {E : Ex} {Q : Option Value → Mm → Prop} {μ : Mm} (t : p_X12_readsOne   μ) (k : Q (some (.int (v_X12_readsOne  μ))) (e_X12_readsOne  μ)) : Con E 7 mX12_readsOne [rf E 49] μ Q := by
  refine Con_J (by decide +kernel) (Nat.le_of_ble_eq_true rfl) (fun G => ?_)
  unfold v_X12_readsOne e_X12_readsOne at k
  unfold p_X12_readsOne at t
  refine J_sub (ls' := [(0, rf E 49)]) [0] rfl ?_
  refine J_aload_n (dk okX12_readsOne 0 rfl) 0 rfl rfl ?_
  refine J_getI (dk okX12_readsOne 1 rfl) kfX12_111 ds_49 rfl ?_
  refine J_aload_n (dk okX12_readsOne 2 rfl) 0 rfl rfl ?_
  refine J_getI (dk okX12_readsOne 3 rfl) kfX12_187 ds_49 rfl ?_
  refine J_iadd (dk okX12_readsOne 4 rfl) ?_
  refine J_bipush (v := 7) (dk okX12_readsOne 5 rfl) (by decide) ?_
  refine J_icmp_ne (tgt := 16) (dk okX12_readsOne 6 rfl) (by decide) (fun h1 => ?_) (fun h1 => ?_)
  · have t := t h1
    refine J_aload_n (dk okX12_readsOne 9 rfl) 0 rfl rfl ?_
    refine J_getR (dk okX12_readsOne 10 rfl) kfX12_41 ds_49 rfl ?_
    refine J_aload_n (dk okX12_readsOne 11 rfl) 0 rfl rfl ?_
    refine J_getI (dk okX12_readsOne 12 rfl) kfX12_187 ds_49 rfl ?_
    refine J_aload_n (dk okX12_readsOne 13 rfl) 0 rfl rfl ?_
    refine J_iconst (v := 1) (dk okX12_readsOne 14 rfl) (by decide) ?_
    refine J_bipush (v := 9) (dk okX12_readsOne 15 rfl) (by decide) ?_
    obtain ⟨s2, t⟩ := t
    refine J_callVi (As := [.int 1, .int 9]) (dk okX12_readsOne 16 rfl) ds_49 rfl vkX12_digitIn lkX12_190 rfl rfl (Nat.le_of_ble_eq_true rfl) (by decide) (con_X12_digitIn s2 ⟨_, rfl, ?_⟩)
    refine J_nm (fun μ3 eμ3 => ?_)
    have t := t μ3 eμ3
    obtain ⟨s4, t⟩ := t
    refine J_iast (dk okX12_readsOne 17 rfl) ds_55 s4 ?_
    refine J_nm (fun μ5 eμ5 => ?_)
    have t := t μ5 eμ5
    refine J_aload_n (dk okX12_readsOne 18 rfl) 0 rfl rfl ?_
    refine J_getR (dk okX12_readsOne 19 rfl) kfX12_41 ds_49 rfl ?_
    refine J_aload_n (dk okX12_readsOne 20 rfl) 0 rfl rfl ?_
    refine J_getI (dk okX12_readsOne 21 rfl) kfX12_187 ds_49 rfl ?_
    obtain ⟨s6, t⟩ := t
    refine J_iald (dk okX12_readsOne 22 rfl) ds_55 s6 ?_
    refine J_if_lt (tgt := 53) (dk okX12_readsOne 23 rfl) (by decide) (fun h7 => ?_) (fun h7 => ?_)
    · refine J_iconst (v := 0) (dk okX12_readsOne 28 rfl) (by decide) ?_
      subst eμ5 eμ3
      (try simp only [if_neg h1, if_pos h7] at k ⊢)
      exact J_zret (dk okX12_readsOne 29 rfl) rfl rfl k
    · have t := t h7
      refine J_aload_n (dk okX12_readsOne 24 rfl) 0 rfl rfl ?_
      refine J_ldcS (i := 1) (tx := "-+") (dk okX12_readsOne 25 rfl) (by decide +kernel) ?_
      obtain ⟨s8, t⟩ := t
      refine J_callVi (As := [sf E 1]) (dk okX12_readsOne 26 rfl) ds_49 rfl vkX12_readsSigned lkX12_195 rfl rfl (Nat.le_of_ble_eq_true rfl) (by decide) (con_X12_readsSigned (by decide) s8 ⟨_, rfl, ?_⟩)
      refine J_nm (fun μ9 eμ9 => ?_)
      have t := t μ9 eμ9
      refine J_if_ne (tgt := 55) (dk okX12_readsOne 27 rfl) (by decide) (fun h10 => ?_) (fun h10 => ?_)
      · have t := t h10
        refine J_aload_n (dk okX12_readsOne 30 rfl) 0 rfl rfl ?_
        refine J_getR (dk okX12_readsOne 31 rfl) kfX12_44 ds_49 rfl ?_
        refine J_aload_n (dk okX12_readsOne 32 rfl) 0 rfl rfl ?_
        refine J_getI (dk okX12_readsOne 33 rfl) kfX12_187 ds_49 rfl ?_
        refine J_aload_n (dk okX12_readsOne 34 rfl) 0 rfl rfl ?_
        refine J_getI (dk okX12_readsOne 35 rfl) kfX12_184 ds_49 rfl ?_
        have s11 := t
        refine J_iast (dk okX12_readsOne 36 rfl) ds_56 s11 ?_
        refine J_nm (fun μ12 eμ12 => ?_)
        refine J_aload_n (dk okX12_readsOne 37 rfl) 0 rfl rfl ?_
        refine J_dup (dk okX12_readsOne 38 rfl) rfl ?_
        refine J_getI (dk okX12_readsOne 39 rfl) kfX12_187 ds_49 rfl ?_
        refine J_iconst (v := 1) (dk okX12_readsOne 40 rfl) (by decide) ?_
        refine J_iadd (dk okX12_readsOne 41 rfl) ?_
        refine J_put (dk okX12_readsOne 42 rfl) kpX12_187 ds_49 rfl rfl rfl ?_
        refine J_nm (fun μ13 eμ13 => ?_)
        refine J_iconst (v := 1) (dk okX12_readsOne 43 rfl) (by decide) ?_
        subst eμ13 eμ12 eμ9 eμ5 eμ3
        (try simp only [if_neg h1, if_neg h7, if_neg h10] at k ⊢)
        exact J_zret (dk okX12_readsOne 44 rfl) rfl rfl k
      · refine J_iconst (v := 0) (dk okX12_readsOne 28 rfl) (by decide) ?_
        subst eμ9 eμ5 eμ3
        (try simp only [if_neg h1, if_neg h7, if_pos h10] at k ⊢)
        exact J_zret (dk okX12_readsOne 29 rfl) rfl rfl k
  · refine J_iconst (v := 0) (dk okX12_readsOne 7 rfl) (by decide) ?_
    (try simp only [if_pos h1] at k ⊢)
    exact J_zret (dk okX12_readsOne 8 rfl) rfl rfl k
noncomputable def bd_X12_wishesOf_4  (x1 : Int32) (x2 : Int32) (x3 : Int32) (μ : Mm) : (Int32 × Int32 × Int32 × Mm) ⊕ (Int32 × Mm) := (if 19 ≤ x3 then .inr (x2, μ) else (let μ3 : Mm := (e_X12_isAsSeen x1 x3 μ); .inl (x1, (x2 ||| (if (v_X12_isAsSeen x1 x3 μ) = 0 then 0 else (1 <<< (x3 &&& 31)) : Int32)), (x3 + 1), μ3)))
def sd_X12_wishesOf_4   (x1 : Int32) (x2 : Int32) (x3 : Int32) (μ : Mm) : Prop := (¬ (19 ≤ x3) → p_X12_isAsSeen x1 x3 μ)
set_option maxRecDepth 20000 in
set_option maxHeartbeats 4000000 in
theorem lw_X12_wishesOf_4 {E : Ex} {G : Gx} {Q : Option Value → Mm → Prop} {x1 : Int32} {x2 : Int32} {x3 : Int32} {μ : Mm}  (p : whP (fun s : Int32 × Int32 × Int32 × Mm => bd_X12_wishesOf_4  s.1 s.2.1 s.2.2.1 s.2.2.2) (fun s : Int32 × Int32 × Int32 × Mm => sd_X12_wishesOf_4   s.1 s.2.1 s.2.2.1 s.2.2.2) FU (x1, x2, x3, μ)) (k : ∀ r : Int32 × Mm, r = whl (fun s : Int32 × Int32 × Int32 × Mm => bd_X12_wishesOf_4  s.1 s.2.1 s.2.2.1 s.2.2.2) (fun s : Int32 × Int32 × Int32 × Mm => (0, s.2.2.2)) FU (x1, x2, x3, μ) → J E G 7 mX12_wishesOf Q 35 [(2, .int (r.1))] [] (r.2)) : J E G 7 mX12_wishesOf Q 4 [(0, rf E 49), (1, .int x1), (2, .int x2), (3, .int x3)] [] μ := by
  refine J_whl (f := (fun s : Int32 × Int32 × Int32 × Mm => bd_X12_wishesOf_4  s.1 s.2.1 s.2.2.1 s.2.2.2)) (dd := (fun s : Int32 × Int32 × Int32 × Mm => (0, s.2.2.2))) (sd := (fun s : Int32 × Int32 × Int32 × Mm => sd_X12_wishesOf_4   s.1 s.2.1 s.2.2.1 s.2.2.2)) (P := fun s : Int32 × Int32 × Int32 × Mm => J E G 7 mX12_wishesOf Q 4 [(0, rf E 49), (1, .int (s.1)), (2, .int (s.2.1)), (3, .int (s.2.2.1))] [] (s.2.2.2)) (R := fun r : Int32 × Mm => J E G 7 mX12_wishesOf Q 35 [(2, .int (r.1))] [] (r.2)) ?_ FU (x1, x2, x3, μ) p (k _ rfl)
  clear p k
  rintro ⟨x1, x2, x3, μ⟩ t k1 k2
  dsimp only [sd_X12_wishesOf_4] at t
  have kb : ∀ (y1 : Int32) (y2 : Int32) (y3 : Int32) (μ9 : Mm), bd_X12_wishesOf_4  x1 x2 x3 μ = .inl (y1, y2, y3, μ9) → J E G 7 mX12_wishesOf Q 4 [(0, rf E 49), (1, .int y1), (2, .int y2), (3, .int y3)] [] μ9 := fun y1 y2 y3 μ9 h => k1 (y1, y2, y3, μ9) h
  have kx : ∀ (y2 : Int32) (μ9 : Mm), bd_X12_wishesOf_4  x1 x2 x3 μ = .inr (y2, μ9) → J E G 7 mX12_wishesOf Q 35 [(2, .int y2)] [] μ9 := fun y2 μ9 h => k2 (y2, μ9) h
  clear k1 k2
  refine J_iload_n (dk okX12_wishesOf 4 rfl) 3 rfl rfl ?_
  refine J_bipush (v := 19) (dk okX12_wishesOf 5 rfl) (by decide) ?_
  refine J_icmp_ge (tgt := 35) (dk okX12_wishesOf 6 rfl) (by decide) (fun h1 => ?_) (fun h1 => ?_)
  · exact J_sub [2] rfl (kx x2 μ (by unfold bd_X12_wishesOf_4; first | (simp only [if_pos h1]; done) | (simp only [if_pos h1]; rfl) | rfl))
  · have t := t h1
    refine J_iload_n (dk okX12_wishesOf 7 rfl) 2 rfl rfl ?_
    refine J_aload_n (dk okX12_wishesOf 8 rfl) 0 rfl rfl ?_
    refine J_iload_n (dk okX12_wishesOf 9 rfl) 1 rfl rfl ?_
    refine J_iload_n (dk okX12_wishesOf 10 rfl) 3 rfl rfl ?_
    have s2 := t
    refine J_callVi (As := [.int x1, .int x3]) (dk okX12_wishesOf 11 rfl) ds_49 rfl vkX12_isAsSeen lkX12_397 rfl rfl (Nat.le_of_ble_eq_true rfl) (by decide) (con_X12_isAsSeen s2 ⟨_, rfl, ?_⟩)
    refine J_nm (fun μ3 eμ3 => ?_)
    have K5 : J E G 7 mX12_wishesOf Q 27 [(0, rf E 49), (1, .int x1), (3, .int x3)] [.int (if (v_X12_isAsSeen x1 x3 μ) = 0 then 0 else (1 <<< (x3 &&& 31)) : Int32), .int x2] μ3 := by
      refine J_ior (dk okX12_wishesOf 18 rfl) ?_
      refine J_istore_n (ls' := [(2, _), (0, _), (1, _), (3, _)]) (dk okX12_wishesOf 19 rfl) rfl (by decide) rfl ?_
      refine J_iinc (v := (x3 + 1)) (ls' := [(3, _), (2, _), (0, _), (1, _)]) (dk okX12_wishesOf 20 rfl) 3 rfl rfl (by decide) rfl ?_
      refine J_goto (tgt := 4) (dk okX12_wishesOf 21 rfl) (by decide) ?_
      exact J_sub [2, 3, 1, 0] rfl (kb x1 (x2 ||| (if (v_X12_isAsSeen x1 x3 μ) = 0 then 0 else (1 <<< (x3 &&& 31)) : Int32)) (x3 + 1) μ3 (by subst eμ3; unfold bd_X12_wishesOf_4; first | (simp only [if_neg h1]; done) | (simp only [if_neg h1]; rfl) | rfl))
    refine J_if_eq (tgt := 26) (dk okX12_wishesOf 12 rfl) (by decide) (fun h4 => ?_) (fun h4 => ?_)
    · refine J_iconst (v := 0) (dk okX12_wishesOf 17 rfl) (by decide) ?_
      refine J_sub (ls' := [(0, _), (1, _), (3, _)]) [0, 1, 3] rfl ?_
      (try simp only [if_pos h4] at K5 ⊢); exact K5
    · refine J_iconst (v := 1) (dk okX12_wishesOf 13 rfl) (by decide) ?_
      refine J_iload_n (dk okX12_wishesOf 14 rfl) 3 rfl rfl ?_
      refine J_ishl (dk okX12_wishesOf 15 rfl) ?_
      refine J_goto (tgt := 27) (dk okX12_wishesOf 16 rfl) (by decide) ?_
      refine J_sub (ls' := [(0, _), (1, _), (3, _)]) [0, 1, 3] rfl ?_
      (try simp only [if_neg h4] at K5 ⊢); exact K5
/-- VotingFloorModel.wishesOf(I)I -/
noncomputable def v_X12_wishesOf (p0 : Int32) (μ : Mm) : Int32 := (let r2 : Int32 × Mm := whl (fun s : Int32 × Int32 × Int32 × Mm => bd_X12_wishesOf_4  s.1 s.2.1 s.2.2.1 s.2.2.2) (fun s : Int32 × Int32 × Int32 × Mm => (0, s.2.2.2)) FU (p0, 0, 0, μ); (r2.1))
noncomputable def e_X12_wishesOf (p0 : Int32) (μ : Mm) : Mm := (let r2 : Int32 × Mm := whl (fun s : Int32 × Int32 × Int32 × Mm => bd_X12_wishesOf_4  s.1 s.2.1 s.2.2.1 s.2.2.2) (fun s : Int32 × Int32 × Int32 × Mm => (0, s.2.2.2)) FU (p0, 0, 0, μ); (r2.2))
def p_X12_wishesOf (p0 : Int32)  (μ : Mm) : Prop := whP (fun s : Int32 × Int32 × Int32 × Mm => bd_X12_wishesOf_4  s.1 s.2.1 s.2.2.1 s.2.2.2) (fun s : Int32 × Int32 × Int32 × Mm => sd_X12_wishesOf_4   s.1 s.2.1 s.2.2.1 s.2.2.2) FU (p0, 0, 0, μ)
set_option maxRecDepth 20000 in
set_option maxHeartbeats 4000000 in
theorem con_X12_wishesOf {E : Ex} {Q : Option Value → Mm → Prop} {p0 : Int32} {μ : Mm} (t : p_X12_wishesOf p0  μ) (k : Q (some (.int (v_X12_wishesOf p0 μ))) (e_X12_wishesOf p0 μ)) : Con E 7 mX12_wishesOf [rf E 49, .int p0] μ Q := by
  refine Con_J (by decide +kernel) (Nat.le_of_ble_eq_true rfl) (fun G => ?_)
  unfold v_X12_wishesOf e_X12_wishesOf at k
  unfold p_X12_wishesOf at t
  refine J_sub (ls' := [(0, rf E 49), (1, .int p0)]) [0, 1] rfl ?_
  refine J_iconst (v := 0) (dk okX12_wishesOf 0 rfl) (by decide) ?_
  refine J_istore_n (ls' := [(2, _), (0, _), (1, _)]) (dk okX12_wishesOf 1 rfl) rfl (by decide) rfl ?_
  refine J_iconst (v := 0) (dk okX12_wishesOf 2 rfl) (by decide) ?_
  refine J_istore_n (ls' := [(3, _), (2, _), (0, _), (1, _)]) (dk okX12_wishesOf 3 rfl) rfl (by decide) rfl ?_
  have s1 := t
  refine J_sub (ls' := [(0, _), (1, _), (2, _), (3, _)]) [2, 3, 1, 0] rfl ?_
  refine lw_X12_wishesOf_4  s1 (fun r2 er2 => ?_)
  refine J_iload_n (dk okX12_wishesOf 22 rfl) 0 rfl rfl ?_
  subst er2
  exact J_iret (dk okX12_wishesOf 23 rfl) rfl k
/-- VotingFloorModel.cares(I)I -/
noncomputable def v_X12_cares (p0 : Int32) (μ : Mm) : Int32 := (let μ1 : Mm := (upI μ 49 0 0); (if (v_X12_isOne p0 μ1) = 0 then (-1) else (v_X12_wishesOf p0 μ1)))
noncomputable def e_X12_cares (p0 : Int32) (μ : Mm) : Mm := (let μ1 : Mm := (upI μ 49 0 0); (if (v_X12_isOne p0 μ1) = 0 then μ1 else (let μ4 : Mm := (e_X12_wishesOf p0 μ1); (let μ5 : Mm := (upI μ4 49 1 0); (let μ7 : Mm := (e_X12_enters (Int32.toInt64 (v_J6_bitCount_0f7a4 (v_X12_wishesOf p0 μ1))) μ5); (let μ13 : Mm := (if (v_X12_wishesOf p0 μ1) = 0 then μ7 else ((e_X12_enters (Int32.toInt64 (122 - (v_J6_numberOfLeadingZeros_0f7a4 (v_X12_wishesOf p0 μ1)))) ((e_X12_enters (Int32.toInt64 (91 + (v_J6_numberOfTrailingZeros_0f7a4 (v_X12_wishesOf p0 μ1)))) μ7)))) : Mm); μ13))))))
def p_X12_cares (p0 : Int32)  (μ : Mm) : Prop := (∀ μ1 : Mm, μ1 = (upI μ 49 0 0) → (¬ ((v_X12_isOne p0 μ1) = 0) → (p_X12_wishesOf p0 μ1) ∧ (∀ μ4 : Mm, μ4 = (e_X12_wishesOf p0 μ1) → (∀ μ5 : Mm, μ5 = (upI μ4 49 1 0) → (p_X12_enters (Int32.toInt64 (v_J6_bitCount_0f7a4 (v_X12_wishesOf p0 μ1))) μ5) ∧ (∀ μ7 : Mm, μ7 = (e_X12_enters (Int32.toInt64 (v_J6_bitCount_0f7a4 (v_X12_wishesOf p0 μ1))) μ5) → (¬ ((v_X12_wishesOf p0 μ1) = 0) → (p_X12_enters (Int32.toInt64 (91 + (v_J6_numberOfTrailingZeros_0f7a4 (v_X12_wishesOf p0 μ1)))) μ7) ∧ (∀ μ10 : Mm, μ10 = (e_X12_enters (Int32.toInt64 (91 + (v_J6_numberOfTrailingZeros_0f7a4 (v_X12_wishesOf p0 μ1)))) μ7) → p_X12_enters (Int32.toInt64 (122 - (v_J6_numberOfLeadingZeros_0f7a4 (v_X12_wishesOf p0 μ1)))) μ10)))))))
set_option maxRecDepth 20000 in
set_option maxHeartbeats 4000000 in
theorem con_X12_cares {E : Ex} {Q : Option Value → Mm → Prop} {p0 : Int32} {μ : Mm} (t : p_X12_cares p0  μ) (k : Q (some (.int (v_X12_cares p0 μ))) (e_X12_cares p0 μ)) : Con E 8 mX12_cares [rf E 49, .int p0] μ Q := by
  refine Con_J (by decide +kernel) (Nat.le_of_ble_eq_true rfl) (fun G => ?_)
  unfold v_X12_cares e_X12_cares at k
  unfold p_X12_cares at t
  refine J_sub (ls' := [(0, rf E 49), (1, .int p0)]) [0, 1] rfl ?_
  refine J_aload_n (dk okX12_cares 0 rfl) 0 rfl rfl ?_
  refine J_iconst (v := 0) (dk okX12_cares 1 rfl) (by decide) ?_
  refine J_put (dk okX12_cares 2 rfl) kpX12_3 ds_49 rfl rfl rfl ?_
  refine J_nm (fun μ1 eμ1 => ?_)
  have t := t μ1 eμ1
  refine J_aload_n (dk okX12_cares 3 rfl) 0 rfl rfl ?_
  refine J_iload_n (dk okX12_cares 4 rfl) 1 rfl rfl ?_
  refine J_callVi (As := [.int p0]) (dk okX12_cares 5 rfl) ds_49 rfl vkX12_isOne lkX12_267 rfl rfl (Nat.le_of_ble_eq_true rfl) (by decide) (con_X12_isOne  ⟨_, rfl, ?_⟩)
  refine J_if_ne (tgt := 15) (dk okX12_cares 6 rfl) (by decide) (fun h2 => ?_) (fun h2 => ?_)
  · have t := t h2
    refine J_aload_n (dk okX12_cares 9 rfl) 0 rfl rfl ?_
    refine J_iload_n (dk okX12_cares 10 rfl) 1 rfl rfl ?_
    obtain ⟨s3, t⟩ := t
    refine J_callVi (As := [.int p0]) (dk okX12_cares 11 rfl) ds_49 rfl vkX12_wishesOf lkX12_400 rfl rfl (Nat.le_of_ble_eq_true rfl) (by decide) (con_X12_wishesOf s3 ⟨_, rfl, ?_⟩)
    refine J_nm (fun μ4 eμ4 => ?_)
    have t := t μ4 eμ4
    refine J_istore_n (ls' := [(2, _), (0, _), (1, _)]) (dk okX12_cares 12 rfl) rfl (by decide) rfl ?_
    refine J_aload_n (dk okX12_cares 13 rfl) 1 rfl rfl ?_
    refine J_iconst (v := 0) (dk okX12_cares 14 rfl) (by decide) ?_
    refine J_put (dk okX12_cares 15 rfl) kpX12_15 ds_49 rfl rfl rfl ?_
    refine J_nm (fun μ5 eμ5 => ?_)
    have t := t μ5 eμ5
    refine J_aload_n (dk okX12_cares 16 rfl) 1 rfl rfl ?_
    refine J_iload_n (dk okX12_cares 17 rfl) 0 rfl rfl ?_
    refine J_callSi (As := [.int (v_X12_wishesOf p0 μ1)]) (dk okX12_cares 18 rfl) skJ6_bitCount_0f7a4 lkX12_299 rfl rfl (Nat.le_of_ble_eq_true rfl) (by decide) (con_J6_bitCount_0f7a4  ⟨_, rfl, ?_⟩)
    refine J_i2l (dk okX12_cares 19 rfl) ?_
    obtain ⟨s6, t⟩ := t
    refine J_callVv (As := [.long (Int32.toInt64 (v_J6_bitCount_0f7a4 (v_X12_wishesOf p0 μ1)))]) (dk okX12_cares 20 rfl) ds_49 rfl vkX12_enters lkX12_18 rfl rfl (Nat.le_of_ble_eq_true rfl) (by decide) (con_X12_enters s6 ⟨rfl, ?_⟩)
    refine J_nm (fun μ7 eμ7 => ?_)
    have t := t μ7 eμ7
    refine J_iload_n (dk okX12_cares 21 rfl) 0 rfl rfl ?_
    have K14 : J E G 8 mX12_cares Q 63 [(2, .int (v_X12_wishesOf p0 μ1))] [] (if (v_X12_wishesOf p0 μ1) = 0 then μ7 else ((e_X12_enters (Int32.toInt64 (122 - (v_J6_numberOfLeadingZeros_0f7a4 (v_X12_wishesOf p0 μ1)))) ((e_X12_enters (Int32.toInt64 (91 + (v_J6_numberOfTrailingZeros_0f7a4 (v_X12_wishesOf p0 μ1)))) μ7)))) : Mm) := by
      refine J_nm (fun μ13 eμ13 => ?_)
      refine J_iload_n (dk okX12_cares 37 rfl) 0 rfl rfl ?_
      subst eμ13 eμ7 eμ5 eμ4 eμ1
      (try simp only [if_neg h2] at k ⊢)
      exact J_iret (dk okX12_cares 38 rfl) rfl k
    refine J_if_eq (tgt := 63) (dk okX12_cares 22 rfl) (by decide) (fun h8 => ?_) (fun h8 => ?_)
    · refine J_sub (ls' := [(2, _)]) [0] rfl ?_
      (try simp only [if_pos h8] at K14 ⊢); exact K14
    · have t := t h8
      refine J_aload_n (dk okX12_cares 23 rfl) 1 rfl rfl ?_
      refine J_bipush (v := 91) (dk okX12_cares 24 rfl) (by decide) ?_
      refine J_iload_n (dk okX12_cares 25 rfl) 0 rfl rfl ?_
      refine J_callSi (As := [.int (v_X12_wishesOf p0 μ1)]) (dk okX12_cares 26 rfl) skJ6_numberOfTrailingZeros_0f7a4 lkX12_403 rfl rfl (Nat.le_of_ble_eq_true rfl) (by decide) (con_J6_numberOfTrailingZeros_0f7a4  ⟨_, rfl, ?_⟩)
      refine J_iadd (dk okX12_cares 27 rfl) ?_
      refine J_i2l (dk okX12_cares 28 rfl) ?_
      obtain ⟨s9, t⟩ := t
      refine J_callVv (As := [.long (Int32.toInt64 (91 + (v_J6_numberOfTrailingZeros_0f7a4 (v_X12_wishesOf p0 μ1))))]) (dk okX12_cares 29 rfl) ds_49 rfl vkX12_enters lkX12_18 rfl rfl (Nat.le_of_ble_eq_true rfl) (by decide) (con_X12_enters s9 ⟨rfl, ?_⟩)
      refine J_nm (fun μ10 eμ10 => ?_)
      have t := t μ10 eμ10
      refine J_aload_n (dk okX12_cares 30 rfl) 1 rfl rfl ?_
      refine J_bipush (v := 122) (dk okX12_cares 31 rfl) (by decide) ?_
      refine J_iload_n (dk okX12_cares 32 rfl) 0 rfl rfl ?_
      refine J_callSi (As := [.int (v_X12_wishesOf p0 μ1)]) (dk okX12_cares 33 rfl) skJ6_numberOfLeadingZeros_0f7a4 lkX12_406 rfl rfl (Nat.le_of_ble_eq_true rfl) (by decide) (con_J6_numberOfLeadingZeros_0f7a4  ⟨_, rfl, ?_⟩)
      refine J_isub (dk okX12_cares 34 rfl) ?_
      refine J_i2l (dk okX12_cares 35 rfl) ?_
      have s11 := t
      refine J_callVv (As := [.long (Int32.toInt64 (122 - (v_J6_numberOfLeadingZeros_0f7a4 (v_X12_wishesOf p0 μ1))))]) (dk okX12_cares 36 rfl) ds_49 rfl vkX12_enters lkX12_18 rfl rfl (Nat.le_of_ble_eq_true rfl) (by decide) (con_X12_enters s11 ⟨rfl, ?_⟩)
      refine J_nm (fun μ12 eμ12 => ?_)
      subst eμ12 eμ10
      refine J_sub (ls' := [(2, _)]) [0] rfl ?_
      (try simp only [if_neg h8] at K14 ⊢); exact K14
  · refine J_iconst (v := (-1)) (dk okX12_cares 7 rfl) (by decide) ?_
    subst eμ1
    (try simp only [if_pos h2] at k ⊢)
    exact J_iret (dk okX12_cares 8 rfl) rfl k
/-- VotingFloorModel.decides()I -/
noncomputable def v_X12_decides  (μ : Mm) : Int32 := (let μ1 : Mm := (upI μ 49 0 0); (let μ3 : Mm := (e_X12_goesToNoon  μ1); (let μ4 : Mm := (upI μ3 49 1 0); (let μ7 : Mm := (e_X12_enters (Int32.toInt64 (2000 + (v_X12_moment 53 μ4))) μ4); (let μ9 : Mm := (e_X12_entersPlaces  μ7); (v_X12_side (v_X12_moment 53 μ9)))))))
noncomputable def e_X12_decides  (μ : Mm) : Mm := (let μ1 : Mm := (upI μ 49 0 0); (let μ3 : Mm := (e_X12_goesToNoon  μ1); (let μ4 : Mm := (upI μ3 49 1 0); (let μ7 : Mm := (e_X12_enters (Int32.toInt64 (2000 + (v_X12_moment 53 μ4))) μ4); (let μ9 : Mm := (e_X12_entersPlaces  μ7); μ9)))))
def p_X12_decides   (μ : Mm) : Prop := (∀ μ1 : Mm, μ1 = (upI μ 49 0 0) → (p_X12_goesToNoon μ1) ∧ (∀ μ3 : Mm, μ3 = (e_X12_goesToNoon  μ1) → (∀ μ4 : Mm, μ4 = (upI μ3 49 1 0) → (p_X12_moment 53 μ4) ∧ (p_X12_enters (Int32.toInt64 (2000 + (v_X12_moment 53 μ4))) μ4) ∧ (∀ μ7 : Mm, μ7 = (e_X12_enters (Int32.toInt64 (2000 + (v_X12_moment 53 μ4))) μ4) → (p_X12_entersPlaces μ7) ∧ (∀ μ9 : Mm, μ9 = (e_X12_entersPlaces  μ7) → p_X12_moment 53 μ9)))))
set_option maxRecDepth 20000 in
set_option maxHeartbeats 4000000 in
theorem con_X12_decides {E : Ex} {Q : Option Value → Mm → Prop} {μ : Mm} (t : p_X12_decides   μ) (k : Q (some (.int (v_X12_decides  μ))) (e_X12_decides  μ)) : Con E 8 mX12_decides [rf E 49] μ Q := by
  refine Con_J (by decide +kernel) (Nat.le_of_ble_eq_true rfl) (fun G => ?_)
  unfold v_X12_decides e_X12_decides at k
  unfold p_X12_decides at t
  refine J_sub (ls' := [(0, rf E 49)]) [0] rfl ?_
  refine J_aload_n (dk okX12_decides 0 rfl) 0 rfl rfl ?_
  refine J_iconst (v := 0) (dk okX12_decides 1 rfl) (by decide) ?_
  refine J_put (dk okX12_decides 2 rfl) kpX12_3 ds_49 rfl rfl rfl ?_
  refine J_nm (fun μ1 eμ1 => ?_)
  have t := t μ1 eμ1
  refine J_aload_n (dk okX12_decides 3 rfl) 0 rfl rfl ?_
  obtain ⟨s2, t⟩ := t
  refine J_callVv (As := []) (dk okX12_decides 4 rfl) ds_49 rfl vkX12_goesToNoon lkX12_349 rfl rfl (Nat.le_of_ble_eq_true rfl) (by decide) (con_X12_goesToNoon s2 ⟨rfl, ?_⟩)
  refine J_nm (fun μ3 eμ3 => ?_)
  have t := t μ3 eμ3
  refine J_aload_n (dk okX12_decides 5 rfl) 0 rfl rfl ?_
  refine J_iconst (v := 0) (dk okX12_decides 6 rfl) (by decide) ?_
  refine J_put (dk okX12_decides 7 rfl) kpX12_15 ds_49 rfl rfl rfl ?_
  refine J_nm (fun μ4 eμ4 => ?_)
  have t := t μ4 eμ4
  refine J_aload_n (dk okX12_decides 8 rfl) 0 rfl rfl ?_
  refine J_sipush (v := 2000) (dk okX12_decides 9 rfl) (by decide) ?_
  refine J_aload_n (dk okX12_decides 10 rfl) 0 rfl rfl ?_
  refine J_aload_n (dk okX12_decides 11 rfl) 0 rfl rfl ?_
  refine J_getR (dk okX12_decides 12 rfl) kfX12_35 ds_49 rfl ?_
  obtain ⟨s5, t⟩ := t
  refine J_callVi (As := [rf E 53]) (dk okX12_decides 13 rfl) ds_49 rfl vkX12_moment lkX12_275 rfl rfl (Nat.le_of_ble_eq_true rfl) (by decide) (con_X12_moment ds_53 s5 ⟨_, rfl, ?_⟩)
  refine J_iadd (dk okX12_decides 14 rfl) ?_
  refine J_i2l (dk okX12_decides 15 rfl) ?_
  obtain ⟨s6, t⟩ := t
  refine J_callVv (As := [.long (Int32.toInt64 (2000 + (v_X12_moment 53 μ4)))]) (dk okX12_decides 16 rfl) ds_49 rfl vkX12_enters lkX12_18 rfl rfl (Nat.le_of_ble_eq_true rfl) (by decide) (con_X12_enters s6 ⟨rfl, ?_⟩)
  refine J_nm (fun μ7 eμ7 => ?_)
  have t := t μ7 eμ7
  refine J_aload_n (dk okX12_decides 17 rfl) 0 rfl rfl ?_
  obtain ⟨s8, t⟩ := t
  refine J_callVv (As := []) (dk okX12_decides 18 rfl) ds_49 rfl vkX12_entersPlaces lkX12_352 rfl rfl (Nat.le_of_ble_eq_true rfl) (by decide) (con_X12_entersPlaces s8 ⟨rfl, ?_⟩)
  refine J_nm (fun μ9 eμ9 => ?_)
  have t := t μ9 eμ9
  refine J_aload_n (dk okX12_decides 19 rfl) 0 rfl rfl ?_
  refine J_aload_n (dk okX12_decides 20 rfl) 0 rfl rfl ?_
  refine J_getR (dk okX12_decides 21 rfl) kfX12_35 ds_49 rfl ?_
  have s10 := t
  refine J_callVi (As := [rf E 53]) (dk okX12_decides 22 rfl) ds_49 rfl vkX12_moment lkX12_275 rfl rfl (Nat.le_of_ble_eq_true rfl) (by decide) (con_X12_moment ds_53 s10 ⟨_, rfl, ?_⟩)
  refine J_callSi (As := [.int (v_X12_moment 53 μ9)]) (dk okX12_decides 23 rfl) skX12_side lkX12_260 rfl rfl (Nat.le_of_ble_eq_true rfl) (by decide) (con_X12_side  ⟨_, rfl, ?_⟩)
  subst eμ9 eμ7 eμ4 eμ3 eμ1
  exact J_iret (dk okX12_decides 24 rfl) rfl k
noncomputable def bd_X12_looks_65  (μ : Mm) (x2 : Int32) (x3 : Int32) (x4 : Int32) (x5 : Int32) (x6 : Int32) (x7 : Int32) (x8 : Int32) (x9 : Int32) : (Int32 × Int32 × Int32 × Int32 × Int32 × Int32 × Int32 × Int32) ⊕ (Int32 × Int32 × Int32 × Int32 × Int32 × Int32 × Int32) := (if 19 ≤ x9 then .inr (x2, x3, x4, x5, x6, x7, x8) else .inl (x2, x3, x4, x5, x6, x7, (x8 + (v_X12_flag (if (v_X12_has x2 x9) = 0 then 0 else (if (μ.1 70 (Int32.toNatClampNeg (v_X12_page x9 x5))) = x7 then 1 else 0 : Int32) : Int32))), (x9 + 1)))
def sd_X12_looks_65   (μ : Mm) (x2 : Int32) (x3 : Int32) (x4 : Int32) (x5 : Int32) (x6 : Int32) (x7 : Int32) (x8 : Int32) (x9 : Int32) : Prop := (¬ (19 ≤ x9) → (¬ ((v_X12_has x2 x9) = 0) → vp_in (v_X12_page x9 x5) 399))
set_option maxRecDepth 20000 in
set_option maxHeartbeats 4000000 in
theorem lw_X12_looks_65 {E : Ex} {G : Gx} {Q : Option Value → Mm → Prop} {x2 : Int32} {x3 : Int32} {x4 : Int32} {x5 : Int32} {x6 : Int32} {x7 : Int32} {x8 : Int32} {x9 : Int32} {μ : Mm}  (p : whP (fun s : Int32 × Int32 × Int32 × Int32 × Int32 × Int32 × Int32 × Int32 => bd_X12_looks_65  μ s.1 s.2.1 s.2.2.1 s.2.2.2.1 s.2.2.2.2.1 s.2.2.2.2.2.1 s.2.2.2.2.2.2.1 s.2.2.2.2.2.2.2) (fun s : Int32 × Int32 × Int32 × Int32 × Int32 × Int32 × Int32 × Int32 => sd_X12_looks_65   μ s.1 s.2.1 s.2.2.1 s.2.2.2.1 s.2.2.2.2.1 s.2.2.2.2.2.1 s.2.2.2.2.2.2.1 s.2.2.2.2.2.2.2) FU (x2, x3, x4, x5, x6, x7, x8, x9)) (k : ∀ r : Int32 × Int32 × Int32 × Int32 × Int32 × Int32 × Int32, r = whl (fun s : Int32 × Int32 × Int32 × Int32 × Int32 × Int32 × Int32 × Int32 => bd_X12_looks_65  μ s.1 s.2.1 s.2.2.1 s.2.2.2.1 s.2.2.2.2.1 s.2.2.2.2.2.1 s.2.2.2.2.2.2.1 s.2.2.2.2.2.2.2) (fun _ : Int32 × Int32 × Int32 × Int32 × Int32 × Int32 × Int32 × Int32 => (0, 0, 0, 0, 0, 0, 0)) FU (x2, x3, x4, x5, x6, x7, x8, x9) → J E G 8 mX12_looks Q 117 [(0, rf E 49), (2, .int (r.1)), (3, .int (r.2.1)), (4, .int (r.2.2.1)), (5, .int (r.2.2.2.1)), (6, .int (r.2.2.2.2.1)), (7, .int (r.2.2.2.2.2.1)), (8, .int (r.2.2.2.2.2.2))] [] μ) : J E G 8 mX12_looks Q 65 [(0, rf E 49), (2, .int x2), (3, .int x3), (4, .int x4), (5, .int x5), (6, .int x6), (7, .int x7), (8, .int x8), (9, .int x9)] [] μ := by
  refine J_whl (f := (fun s : Int32 × Int32 × Int32 × Int32 × Int32 × Int32 × Int32 × Int32 => bd_X12_looks_65  μ s.1 s.2.1 s.2.2.1 s.2.2.2.1 s.2.2.2.2.1 s.2.2.2.2.2.1 s.2.2.2.2.2.2.1 s.2.2.2.2.2.2.2)) (dd := (fun _ : Int32 × Int32 × Int32 × Int32 × Int32 × Int32 × Int32 × Int32 => (0, 0, 0, 0, 0, 0, 0))) (sd := (fun s : Int32 × Int32 × Int32 × Int32 × Int32 × Int32 × Int32 × Int32 => sd_X12_looks_65   μ s.1 s.2.1 s.2.2.1 s.2.2.2.1 s.2.2.2.2.1 s.2.2.2.2.2.1 s.2.2.2.2.2.2.1 s.2.2.2.2.2.2.2)) (P := fun s : Int32 × Int32 × Int32 × Int32 × Int32 × Int32 × Int32 × Int32 => J E G 8 mX12_looks Q 65 [(0, rf E 49), (2, .int (s.1)), (3, .int (s.2.1)), (4, .int (s.2.2.1)), (5, .int (s.2.2.2.1)), (6, .int (s.2.2.2.2.1)), (7, .int (s.2.2.2.2.2.1)), (8, .int (s.2.2.2.2.2.2.1)), (9, .int (s.2.2.2.2.2.2.2))] [] (μ)) (R := fun r : Int32 × Int32 × Int32 × Int32 × Int32 × Int32 × Int32 => J E G 8 mX12_looks Q 117 [(0, rf E 49), (2, .int (r.1)), (3, .int (r.2.1)), (4, .int (r.2.2.1)), (5, .int (r.2.2.2.1)), (6, .int (r.2.2.2.2.1)), (7, .int (r.2.2.2.2.2.1)), (8, .int (r.2.2.2.2.2.2))] [] μ) ?_ FU (x2, x3, x4, x5, x6, x7, x8, x9) p (k _ rfl)
  clear p k
  rintro ⟨x2, x3, x4, x5, x6, x7, x8, x9⟩ t k1 k2
  dsimp only [sd_X12_looks_65] at t
  have kb : ∀ (y2 : Int32) (y3 : Int32) (y4 : Int32) (y5 : Int32) (y6 : Int32) (y7 : Int32) (y8 : Int32) (y9 : Int32) , bd_X12_looks_65  μ x2 x3 x4 x5 x6 x7 x8 x9 = .inl (y2, y3, y4, y5, y6, y7, y8, y9) → J E G 8 mX12_looks Q 65 [(0, rf E 49), (2, .int y2), (3, .int y3), (4, .int y4), (5, .int y5), (6, .int y6), (7, .int y7), (8, .int y8), (9, .int y9)] [] μ := fun y2 y3 y4 y5 y6 y7 y8 y9  h => k1 (y2, y3, y4, y5, y6, y7, y8, y9) h
  have kx : ∀ (y2 : Int32) (y3 : Int32) (y4 : Int32) (y5 : Int32) (y6 : Int32) (y7 : Int32) (y8 : Int32) , bd_X12_looks_65  μ x2 x3 x4 x5 x6 x7 x8 x9 = .inr (y2, y3, y4, y5, y6, y7, y8) → J E G 8 mX12_looks Q 117 [(0, rf E 49), (2, .int y2), (3, .int y3), (4, .int y4), (5, .int y5), (6, .int y6), (7, .int y7), (8, .int y8)] [] μ := fun y2 y3 y4 y5 y6 y7 y8  h => k2 (y2, y3, y4, y5, y6, y7, y8) h
  clear k1 k2
  refine J_iload (dk okX12_looks 37 rfl) 8 rfl ?_
  refine J_bipush (v := 19) (dk okX12_looks 38 rfl) (by decide) ?_
  refine J_icmp_ge (tgt := 117) (dk okX12_looks 39 rfl) (by decide) (fun h1 => ?_) (fun h1 => ?_)
  · exact J_sub [0, 1, 2, 3, 4, 5, 6, 7] rfl (kx x2 x3 x4 x5 x6 x7 x8 (by unfold bd_X12_looks_65; first | (simp only [if_pos h1]; done) | (simp only [if_pos h1]; rfl) | rfl))
  · have t := t h1
    refine J_iload (dk okX12_looks 40 rfl) 7 rfl ?_
    refine J_iload_n (dk okX12_looks 41 rfl) 1 rfl rfl ?_
    refine J_iload (dk okX12_looks 42 rfl) 8 rfl ?_
    refine J_callSi (As := [.int x2, .int x9]) (dk okX12_looks 43 rfl) skX12_has lkX12_126 rfl rfl (Nat.le_of_ble_eq_true rfl) (by decide) (con_X12_has  ⟨_, rfl, ?_⟩)
    have K5 : J E G 8 mX12_looks Q 105 [(0, rf E 49), (2, .int x2), (3, .int x3), (4, .int x4), (5, .int x5), (6, .int x6), (7, .int x7), (9, .int x9)] [.int (if (v_X12_has x2 x9) = 0 then 0 else (if (μ.1 70 (Int32.toNatClampNeg (v_X12_page x9 x5))) = x7 then 1 else 0 : Int32) : Int32), .int x8] μ := by
      refine J_callSi (As := [.int (if (v_X12_has x2 x9) = 0 then 0 else (if (μ.1 70 (Int32.toNatClampNeg (v_X12_page x9 x5))) = x7 then 1 else 0 : Int32) : Int32)]) (dk okX12_looks 56 rfl) skX12_flag lkX12_137 rfl rfl (Nat.le_of_ble_eq_true rfl) (by decide) (con_X12_flag  ⟨_, rfl, ?_⟩)
      refine J_iadd (dk okX12_looks 57 rfl) ?_
      refine J_istore (ls' := [(8, _), (0, _), (2, _), (3, _), (4, _), (5, _), (6, _), (7, _), (9, _)]) (dk okX12_looks 58 rfl) (by decide) rfl ?_
      refine J_iinc (v := (x9 + 1)) (ls' := [(9, _), (8, _), (0, _), (2, _), (3, _), (4, _), (5, _), (6, _), (7, _)]) (dk okX12_looks 59 rfl) 8 rfl rfl (by decide) rfl ?_
      refine J_goto (tgt := 65) (dk okX12_looks 60 rfl) (by decide) ?_
      exact J_sub [2, 3, 4, 5, 6, 7, 8, 1, 0] rfl (kb x2 x3 x4 x5 x6 x7 (x8 + (v_X12_flag (if (v_X12_has x2 x9) = 0 then 0 else (if (μ.1 70 (Int32.toNatClampNeg (v_X12_page x9 x5))) = x7 then 1 else 0 : Int32) : Int32))) (x9 + 1) (by unfold bd_X12_looks_65; first | (simp only [if_neg h1]; done) | (simp only [if_neg h1]; rfl) | rfl))
    refine J_if_eq (tgt := 104) (dk okX12_looks 44 rfl) (by decide) (fun h2 => ?_) (fun h2 => ?_)
    · refine J_iconst (v := 0) (dk okX12_looks 55 rfl) (by decide) ?_
      refine J_sub (ls' := [(0, _), (2, _), (3, _), (4, _), (5, _), (6, _), (7, _), (9, _)]) [0, 1, 2, 3, 4, 5, 6, 8] rfl ?_
      (try simp only [if_pos h2] at K5 ⊢); exact K5
    · have t := t h2
      refine J_aload_n (dk okX12_looks 45 rfl) 0 rfl rfl ?_
      refine J_getR (dk okX12_looks 46 rfl) kfX12_86 ds_49 rfl ?_
      refine J_iload (dk okX12_looks 47 rfl) 8 rfl ?_
      refine J_iload (dk okX12_looks 48 rfl) 4 rfl ?_
      refine J_callSi (As := [.int x9, .int x5]) (dk okX12_looks 49 rfl) skX12_page lkX12_394 rfl rfl (Nat.le_of_ble_eq_true rfl) (by decide) (con_X12_page  ⟨_, rfl, ?_⟩)
      have s3 := t
      refine J_iald (dk okX12_looks 50 rfl) ds_70 s3 ?_
      refine J_iload (dk okX12_looks 51 rfl) 6 rfl ?_
      refine J_icmp_ne (tgt := 104) (dk okX12_looks 52 rfl) (by decide) (fun h4 => ?_) (fun h4 => ?_)
      · refine J_iconst (v := 0) (dk okX12_looks 55 rfl) (by decide) ?_
        refine J_sub (ls' := [(0, _), (2, _), (3, _), (4, _), (5, _), (6, _), (7, _), (9, _)]) [0, 1, 2, 3, 4, 5, 6, 8] rfl ?_
        (try simp only [if_neg h2, if_neg h4] at K5 ⊢); exact K5
      · refine J_iconst (v := 1) (dk okX12_looks 53 rfl) (by decide) ?_
        refine J_goto (tgt := 105) (dk okX12_looks 54 rfl) (by decide) ?_
        refine J_sub (ls' := [(0, _), (2, _), (3, _), (4, _), (5, _), (6, _), (7, _), (9, _)]) [0, 1, 2, 3, 4, 5, 6, 8] rfl ?_
        (try simp only [if_neg h2, if_pos h4] at K5 ⊢); exact K5
noncomputable def bd_X12_looks_52  (μ : Mm) (x2 : Int32) (x3 : Int32) (x4 : Int32) (x5 : Int32) (x6 : Int32) (x7 : Int32) : (Int32 × Int32 × Int32 × Int32 × Int32 × Int32) ⊕ (Int32 × Int32 × Int32 × Int32 × Int32) := (if 9 < x7 then .inr (x2, x3, x4, x5, x6) else (let r3 : Int32 × Int32 × Int32 × Int32 × Int32 × Int32 × Int32 := whl (fun s : Int32 × Int32 × Int32 × Int32 × Int32 × Int32 × Int32 × Int32 => bd_X12_looks_65  μ s.1 s.2.1 s.2.2.1 s.2.2.2.1 s.2.2.2.2.1 s.2.2.2.2.2.1 s.2.2.2.2.2.2.1 s.2.2.2.2.2.2.2) (fun _ : Int32 × Int32 × Int32 × Int32 × Int32 × Int32 × Int32 × Int32 => (0, 0, 0, 0, 0, 0, 0)) FU (x2, x3, x4, x5, x6, x7, 0, 0); .inl ((r3.1), (r3.2.1), (r3.2.2.1), (r3.2.2.2.1), (if (r3.2.2.2.2.1) < (r3.2.2.2.2.2.2) then (r3.2.2.2.2.2.2) else (r3.2.2.2.2.1)), ((r3.2.2.2.2.2.1) + 1))))
def sd_X12_looks_52   (μ : Mm) (x2 : Int32) (x3 : Int32) (x4 : Int32) (x5 : Int32) (x6 : Int32) (x7 : Int32) : Prop := (¬ (9 < x7) → whP (fun s : Int32 × Int32 × Int32 × Int32 × Int32 × Int32 × Int32 × Int32 => bd_X12_looks_65  μ s.1 s.2.1 s.2.2.1 s.2.2.2.1 s.2.2.2.2.1 s.2.2.2.2.2.1 s.2.2.2.2.2.2.1 s.2.2.2.2.2.2.2) (fun s : Int32 × Int32 × Int32 × Int32 × Int32 × Int32 × Int32 × Int32 => sd_X12_looks_65   μ s.1 s.2.1 s.2.2.1 s.2.2.2.1 s.2.2.2.2.1 s.2.2.2.2.2.1 s.2.2.2.2.2.2.1 s.2.2.2.2.2.2.2) FU (x2, x3, x4, x5, x6, x7, 0, 0))
set_option maxRecDepth 20000 in
set_option maxHeartbeats 4000000 in
theorem lw_X12_looks_52 {E : Ex} {G : Gx} {Q : Option Value → Mm → Prop} {x2 : Int32} {x3 : Int32} {x4 : Int32} {x5 : Int32} {x6 : Int32} {x7 : Int32} {μ : Mm}  (p : whP (fun s : Int32 × Int32 × Int32 × Int32 × Int32 × Int32 => bd_X12_looks_52  μ s.1 s.2.1 s.2.2.1 s.2.2.2.1 s.2.2.2.2.1 s.2.2.2.2.2) (fun s : Int32 × Int32 × Int32 × Int32 × Int32 × Int32 => sd_X12_looks_52   μ s.1 s.2.1 s.2.2.1 s.2.2.2.1 s.2.2.2.2.1 s.2.2.2.2.2) FU (x2, x3, x4, x5, x6, x7)) (k : ∀ r : Int32 × Int32 × Int32 × Int32 × Int32, r = whl (fun s : Int32 × Int32 × Int32 × Int32 × Int32 × Int32 => bd_X12_looks_52  μ s.1 s.2.1 s.2.2.1 s.2.2.2.1 s.2.2.2.2.1 s.2.2.2.2.2) (fun _ : Int32 × Int32 × Int32 × Int32 × Int32 × Int32 => (0, 0, 0, 0, 0)) FU (x2, x3, x4, x5, x6, x7) → J E G 8 mX12_looks Q 132 [(0, rf E 49), (2, .int (r.1)), (3, .int (r.2.1)), (4, .int (r.2.2.1)), (5, .int (r.2.2.2.1)), (6, .int (r.2.2.2.2))] [] μ) : J E G 8 mX12_looks Q 52 [(0, rf E 49), (2, .int x2), (3, .int x3), (4, .int x4), (5, .int x5), (6, .int x6), (7, .int x7)] [] μ := by
  refine J_whl (f := (fun s : Int32 × Int32 × Int32 × Int32 × Int32 × Int32 => bd_X12_looks_52  μ s.1 s.2.1 s.2.2.1 s.2.2.2.1 s.2.2.2.2.1 s.2.2.2.2.2)) (dd := (fun _ : Int32 × Int32 × Int32 × Int32 × Int32 × Int32 => (0, 0, 0, 0, 0))) (sd := (fun s : Int32 × Int32 × Int32 × Int32 × Int32 × Int32 => sd_X12_looks_52   μ s.1 s.2.1 s.2.2.1 s.2.2.2.1 s.2.2.2.2.1 s.2.2.2.2.2)) (P := fun s : Int32 × Int32 × Int32 × Int32 × Int32 × Int32 => J E G 8 mX12_looks Q 52 [(0, rf E 49), (2, .int (s.1)), (3, .int (s.2.1)), (4, .int (s.2.2.1)), (5, .int (s.2.2.2.1)), (6, .int (s.2.2.2.2.1)), (7, .int (s.2.2.2.2.2))] [] (μ)) (R := fun r : Int32 × Int32 × Int32 × Int32 × Int32 => J E G 8 mX12_looks Q 132 [(0, rf E 49), (2, .int (r.1)), (3, .int (r.2.1)), (4, .int (r.2.2.1)), (5, .int (r.2.2.2.1)), (6, .int (r.2.2.2.2))] [] μ) ?_ FU (x2, x3, x4, x5, x6, x7) p (k _ rfl)
  clear p k
  rintro ⟨x2, x3, x4, x5, x6, x7⟩ t k1 k2
  dsimp only [sd_X12_looks_52] at t
  have kb : ∀ (y2 : Int32) (y3 : Int32) (y4 : Int32) (y5 : Int32) (y6 : Int32) (y7 : Int32) , bd_X12_looks_52  μ x2 x3 x4 x5 x6 x7 = .inl (y2, y3, y4, y5, y6, y7) → J E G 8 mX12_looks Q 52 [(0, rf E 49), (2, .int y2), (3, .int y3), (4, .int y4), (5, .int y5), (6, .int y6), (7, .int y7)] [] μ := fun y2 y3 y4 y5 y6 y7  h => k1 (y2, y3, y4, y5, y6, y7) h
  have kx : ∀ (y2 : Int32) (y3 : Int32) (y4 : Int32) (y5 : Int32) (y6 : Int32) , bd_X12_looks_52  μ x2 x3 x4 x5 x6 x7 = .inr (y2, y3, y4, y5, y6) → J E G 8 mX12_looks Q 132 [(0, rf E 49), (2, .int y2), (3, .int y3), (4, .int y4), (5, .int y5), (6, .int y6)] [] μ := fun y2 y3 y4 y5 y6  h => k2 (y2, y3, y4, y5, y6) h
  clear k1 k2
  refine J_iload (dk okX12_looks 30 rfl) 6 rfl ?_
  refine J_bipush (v := 9) (dk okX12_looks 31 rfl) (by decide) ?_
  refine J_icmp_gt (tgt := 132) (dk okX12_looks 32 rfl) (by decide) (fun h1 => ?_) (fun h1 => ?_)
  · exact J_sub [0, 1, 2, 3, 4, 5] rfl (kx x2 x3 x4 x5 x6 (by unfold bd_X12_looks_52; first | (simp only [if_pos h1]; done) | (simp only [if_pos h1]; rfl) | rfl))
  · have t := t h1
    refine J_iconst (v := 0) (dk okX12_looks 33 rfl) (by decide) ?_
    refine J_istore (ls' := [(8, _), (0, _), (2, _), (3, _), (4, _), (5, _), (6, _), (7, _)]) (dk okX12_looks 34 rfl) (by decide) rfl ?_
    refine J_iconst (v := 0) (dk okX12_looks 35 rfl) (by decide) ?_
    refine J_istore (ls' := [(9, _), (8, _), (0, _), (2, _), (3, _), (4, _), (5, _), (6, _), (7, _)]) (dk okX12_looks 36 rfl) (by decide) rfl ?_
    have s2 := t
    refine J_sub (ls' := [(0, _), (2, _), (3, _), (4, _), (5, _), (6, _), (7, _), (8, _), (9, _)]) [2, 3, 4, 5, 6, 7, 8, 1, 0] rfl ?_
    refine lw_X12_looks_65  s2 (fun r3 er3 => ?_)
    refine J_iload (dk okX12_looks 61 rfl) 5 rfl ?_
    refine J_iload (dk okX12_looks 62 rfl) 7 rfl ?_
    refine J_mmax (dk okX12_looks 63 rfl) lkX12_284 mk_max_s mk_Math mk_max_c (by decide) (Nat.le_of_ble_eq_true rfl) ?_
    refine J_istore (ls' := [(6, _), (0, _), (2, _), (3, _), (4, _), (5, _), (7, _), (8, _)]) (dk okX12_looks 64 rfl) (by decide) rfl ?_
    refine J_iinc (v := ((r3.2.2.2.2.2.1) + 1)) (ls' := [(7, _), (6, _), (0, _), (2, _), (3, _), (4, _), (5, _), (8, _)]) (dk okX12_looks 65 rfl) 6 rfl rfl (by decide) rfl ?_
    refine J_goto (tgt := 52) (dk okX12_looks 66 rfl) (by decide) ?_
    exact J_sub [2, 3, 4, 5, 6, 1, 0] rfl (kb (r3.1) (r3.2.1) (r3.2.2.1) (r3.2.2.2.1) (if (r3.2.2.2.2.1) < (r3.2.2.2.2.2.2) then (r3.2.2.2.2.2.2) else (r3.2.2.2.2.1)) ((r3.2.2.2.2.2.1) + 1) (by subst er3; unfold bd_X12_looks_52; first | (simp only [if_neg h1]; done) | (simp only [if_neg h1]; rfl) | rfl))
noncomputable def bd_X12_looks_38  (μ : Mm) (x2 : Int32) (x3 : Int32) (x4 : Int32) (x5 : Int32) : (Int32 × Int32 × Int32 × Int32) ⊕ (Int32 × Int32) := (if 20 < x5 then .inr (x3, x4) else (let r3 : Int32 × Int32 × Int32 × Int32 × Int32 := whl (fun s : Int32 × Int32 × Int32 × Int32 × Int32 × Int32 => bd_X12_looks_52  μ s.1 s.2.1 s.2.2.1 s.2.2.2.1 s.2.2.2.2.1 s.2.2.2.2.2) (fun _ : Int32 × Int32 × Int32 × Int32 × Int32 × Int32 => (0, 0, 0, 0, 0)) FU (x2, x3, x4, x5, 0, (-9)); .inl ((r3.1), (if (r3.2.2.1) ≤ (r3.2.2.2.2) then (r3.2.1) else (r3.2.2.2.1) : Int32), (if (r3.2.2.2.2) < (r3.2.2.1) then (r3.2.2.2.2) else (r3.2.2.1)), ((r3.2.2.2.1) + 1))))
def sd_X12_looks_38   (μ : Mm) (x2 : Int32) (x3 : Int32) (x4 : Int32) (x5 : Int32) : Prop := (¬ (20 < x5) → whP (fun s : Int32 × Int32 × Int32 × Int32 × Int32 × Int32 => bd_X12_looks_52  μ s.1 s.2.1 s.2.2.1 s.2.2.2.1 s.2.2.2.2.1 s.2.2.2.2.2) (fun s : Int32 × Int32 × Int32 × Int32 × Int32 × Int32 => sd_X12_looks_52   μ s.1 s.2.1 s.2.2.1 s.2.2.2.1 s.2.2.2.2.1 s.2.2.2.2.2) FU (x2, x3, x4, x5, 0, (-9)))
set_option maxRecDepth 20000 in
set_option maxHeartbeats 4000000 in
theorem lw_X12_looks_38 {E : Ex} {G : Gx} {Q : Option Value → Mm → Prop} {x2 : Int32} {x3 : Int32} {x4 : Int32} {x5 : Int32} {μ : Mm}  (p : whP (fun s : Int32 × Int32 × Int32 × Int32 => bd_X12_looks_38  μ s.1 s.2.1 s.2.2.1 s.2.2.2) (fun s : Int32 × Int32 × Int32 × Int32 => sd_X12_looks_38   μ s.1 s.2.1 s.2.2.1 s.2.2.2) FU (x2, x3, x4, x5)) (k : ∀ r : Int32 × Int32, r = whl (fun s : Int32 × Int32 × Int32 × Int32 => bd_X12_looks_38  μ s.1 s.2.1 s.2.2.1 s.2.2.2) (fun _ : Int32 × Int32 × Int32 × Int32 => (0, 0)) FU (x2, x3, x4, x5) → J E G 8 mX12_looks Q 161 [(0, rf E 49), (3, .int (r.1)), (4, .int (r.2))] [] μ) : J E G 8 mX12_looks Q 38 [(0, rf E 49), (2, .int x2), (3, .int x3), (4, .int x4), (5, .int x5)] [] μ := by
  refine J_whl (f := (fun s : Int32 × Int32 × Int32 × Int32 => bd_X12_looks_38  μ s.1 s.2.1 s.2.2.1 s.2.2.2)) (dd := (fun _ : Int32 × Int32 × Int32 × Int32 => (0, 0))) (sd := (fun s : Int32 × Int32 × Int32 × Int32 => sd_X12_looks_38   μ s.1 s.2.1 s.2.2.1 s.2.2.2)) (P := fun s : Int32 × Int32 × Int32 × Int32 => J E G 8 mX12_looks Q 38 [(0, rf E 49), (2, .int (s.1)), (3, .int (s.2.1)), (4, .int (s.2.2.1)), (5, .int (s.2.2.2))] [] (μ)) (R := fun r : Int32 × Int32 => J E G 8 mX12_looks Q 161 [(0, rf E 49), (3, .int (r.1)), (4, .int (r.2))] [] μ) ?_ FU (x2, x3, x4, x5) p (k _ rfl)
  clear p k
  rintro ⟨x2, x3, x4, x5⟩ t k1 k2
  dsimp only [sd_X12_looks_38] at t
  have kb : ∀ (y2 : Int32) (y3 : Int32) (y4 : Int32) (y5 : Int32) , bd_X12_looks_38  μ x2 x3 x4 x5 = .inl (y2, y3, y4, y5) → J E G 8 mX12_looks Q 38 [(0, rf E 49), (2, .int y2), (3, .int y3), (4, .int y4), (5, .int y5)] [] μ := fun y2 y3 y4 y5  h => k1 (y2, y3, y4, y5) h
  have kx : ∀ (y3 : Int32) (y4 : Int32) , bd_X12_looks_38  μ x2 x3 x4 x5 = .inr (y3, y4) → J E G 8 mX12_looks Q 161 [(0, rf E 49), (3, .int y3), (4, .int y4)] [] μ := fun y3 y4  h => k2 (y3, y4) h
  clear k1 k2
  refine J_iload (dk okX12_looks 23 rfl) 4 rfl ?_
  refine J_bipush (v := 20) (dk okX12_looks 24 rfl) (by decide) ?_
  refine J_icmp_gt (tgt := 161) (dk okX12_looks 25 rfl) (by decide) (fun h1 => ?_) (fun h1 => ?_)
  · exact J_sub [0, 2, 3] rfl (kx x3 x4 (by unfold bd_X12_looks_38; first | (simp only [if_pos h1]; done) | (simp only [if_pos h1]; rfl) | rfl))
  · have t := t h1
    refine J_iconst (v := 0) (dk okX12_looks 26 rfl) (by decide) ?_
    refine J_istore (ls' := [(6, _), (0, _), (2, _), (3, _), (4, _), (5, _)]) (dk okX12_looks 27 rfl) (by decide) rfl ?_
    refine J_bipush (v := (-9)) (dk okX12_looks 28 rfl) (by decide) ?_
    refine J_istore (ls' := [(7, _), (6, _), (0, _), (2, _), (3, _), (4, _), (5, _)]) (dk okX12_looks 29 rfl) (by decide) rfl ?_
    have s2 := t
    refine J_sub (ls' := [(0, _), (2, _), (3, _), (4, _), (5, _), (6, _), (7, _)]) [2, 3, 4, 5, 6, 1, 0] rfl ?_
    refine lw_X12_looks_52  s2 (fun r3 er3 => ?_)
    refine J_iload (dk okX12_looks 67 rfl) 5 rfl ?_
    refine J_iload (dk okX12_looks 68 rfl) 3 rfl ?_
    have K5 : J E G 8 mX12_looks Q 145 [(0, rf E 49), (2, .int (r3.1)), (4, .int (r3.2.2.1)), (5, .int (r3.2.2.2.1)), (6, .int (r3.2.2.2.2))] [.int (if (r3.2.2.1) ≤ (r3.2.2.2.2) then (r3.2.1) else (r3.2.2.2.1) : Int32)] μ := by
      refine J_istore_n (ls' := [(3, _), (0, _), (2, _), (4, _), (5, _), (6, _)]) (dk okX12_looks 73 rfl) rfl (by decide) rfl ?_
      refine J_iload (dk okX12_looks 74 rfl) 3 rfl ?_
      refine J_iload (dk okX12_looks 75 rfl) 5 rfl ?_
      refine J_mmin (dk okX12_looks 76 rfl) lkX12_150 mk_min_s mk_Math mk_min_c (by decide) (Nat.le_of_ble_eq_true rfl) ?_
      refine J_istore (ls' := [(4, _), (3, _), (0, _), (2, _), (5, _), (6, _)]) (dk okX12_looks 77 rfl) (by decide) rfl ?_
      refine J_iinc (v := ((r3.2.2.2.1) + 1)) (ls' := [(5, _), (4, _), (3, _), (0, _), (2, _), (6, _)]) (dk okX12_looks 78 rfl) 4 rfl rfl (by decide) rfl ?_
      refine J_goto (tgt := 38) (dk okX12_looks 79 rfl) (by decide) ?_
      exact J_sub [3, 4, 2, 1, 0] rfl (kb (r3.1) (if (r3.2.2.1) ≤ (r3.2.2.2.2) then (r3.2.1) else (r3.2.2.2.1) : Int32) (if (r3.2.2.2.2) < (r3.2.2.1) then (r3.2.2.2.2) else (r3.2.2.1)) ((r3.2.2.2.1) + 1) (by subst er3; unfold bd_X12_looks_38; first | (simp only [if_neg h1]; done) | (simp only [if_neg h1]; rfl) | rfl))
    refine J_icmp_ge (tgt := 144) (dk okX12_looks 69 rfl) (by decide) (fun h4 => ?_) (fun h4 => ?_)
    · refine J_iload_n (dk okX12_looks 72 rfl) 2 rfl rfl ?_
      refine J_sub (ls' := [(0, _), (2, _), (4, _), (5, _), (6, _)]) [0, 1, 3, 4, 5] rfl ?_
      (try simp only [if_pos h4] at K5 ⊢); exact K5
    · refine J_iload (dk okX12_looks 70 rfl) 4 rfl ?_
      refine J_goto (tgt := 145) (dk okX12_looks 71 rfl) (by decide) ?_
      refine J_sub (ls' := [(0, _), (2, _), (4, _), (5, _), (6, _)]) [0, 1, 3, 4, 5] rfl ?_
      (try simp only [if_neg h4] at K5 ⊢); exact K5
/-- VotingFloorModel.looks(I)I -/
noncomputable def v_X12_looks (p0 : Int32) (μ : Mm) : Int32 := (let μ1 : Mm := (upI μ 49 0 0); (if (v_X12_isOne p0 μ1) = 0 then (-1) else (let μ4 : Mm := (e_X12_wishesOf p0 μ1); (if (v_X12_wishesOf p0 μ1) = 0 then (-2) else (let r7 : Int32 × Int32 := whl (fun s : Int32 × Int32 × Int32 × Int32 => bd_X12_looks_38  μ4 s.1 s.2.1 s.2.2.1 s.2.2.2) (fun _ : Int32 × Int32 × Int32 × Int32 => (0, 0)) FU ((v_X12_wishesOf p0 μ1), (-1), 1000000, 0); (r7.1))))))
noncomputable def e_X12_looks (p0 : Int32) (μ : Mm) : Mm := (let μ1 : Mm := (upI μ 49 0 0); (if (v_X12_isOne p0 μ1) = 0 then μ1 else (let μ4 : Mm := (e_X12_wishesOf p0 μ1); (if (v_X12_wishesOf p0 μ1) = 0 then μ4 else (let r7 : Int32 × Int32 := whl (fun s : Int32 × Int32 × Int32 × Int32 => bd_X12_looks_38  μ4 s.1 s.2.1 s.2.2.1 s.2.2.2) (fun _ : Int32 × Int32 × Int32 × Int32 => (0, 0)) FU ((v_X12_wishesOf p0 μ1), (-1), 1000000, 0); (let μ8 : Mm := (upI μ4 49 1 0); (let μ10 : Mm := (e_X12_enters (Int32.toInt64 (r7.2)) μ8); μ10)))))))
def p_X12_looks (p0 : Int32)  (μ : Mm) : Prop := (∀ μ1 : Mm, μ1 = (upI μ 49 0 0) → (¬ ((v_X12_isOne p0 μ1) = 0) → (p_X12_wishesOf p0 μ1) ∧ (∀ μ4 : Mm, μ4 = (e_X12_wishesOf p0 μ1) → (¬ ((v_X12_wishesOf p0 μ1) = 0) → (whP (fun s : Int32 × Int32 × Int32 × Int32 => bd_X12_looks_38  μ4 s.1 s.2.1 s.2.2.1 s.2.2.2) (fun s : Int32 × Int32 × Int32 × Int32 => sd_X12_looks_38   μ4 s.1 s.2.1 s.2.2.1 s.2.2.2) FU ((v_X12_wishesOf p0 μ1), (-1), 1000000, 0)) ∧ (∀ r7 : Int32 × Int32, r7 = whl (fun s : Int32 × Int32 × Int32 × Int32 => bd_X12_looks_38  μ4 s.1 s.2.1 s.2.2.1 s.2.2.2) (fun _ : Int32 × Int32 × Int32 × Int32 => (0, 0)) FU ((v_X12_wishesOf p0 μ1), (-1), 1000000, 0) → (∀ μ8 : Mm, μ8 = (upI μ4 49 1 0) → p_X12_enters (Int32.toInt64 (r7.2)) μ8))))))
set_option maxRecDepth 20000 in
set_option maxHeartbeats 4000000 in
theorem con_X12_looks {E : Ex} {Q : Option Value → Mm → Prop} {p0 : Int32} {μ : Mm} (t : p_X12_looks p0  μ) (k : Q (some (.int (v_X12_looks p0 μ))) (e_X12_looks p0 μ)) : Con E 8 mX12_looks [rf E 49, .int p0] μ Q := by
  refine Con_J (by decide +kernel) (Nat.le_of_ble_eq_true rfl) (fun G => ?_)
  unfold v_X12_looks e_X12_looks at k
  unfold p_X12_looks at t
  refine J_sub (ls' := [(0, rf E 49), (1, .int p0)]) [0, 1] rfl ?_
  refine J_aload_n (dk okX12_looks 0 rfl) 0 rfl rfl ?_
  refine J_iconst (v := 0) (dk okX12_looks 1 rfl) (by decide) ?_
  refine J_put (dk okX12_looks 2 rfl) kpX12_3 ds_49 rfl rfl rfl ?_
  refine J_nm (fun μ1 eμ1 => ?_)
  have t := t μ1 eμ1
  refine J_aload_n (dk okX12_looks 3 rfl) 0 rfl rfl ?_
  refine J_iload_n (dk okX12_looks 4 rfl) 1 rfl rfl ?_
  refine J_callVi (As := [.int p0]) (dk okX12_looks 5 rfl) ds_49 rfl vkX12_isOne lkX12_267 rfl rfl (Nat.le_of_ble_eq_true rfl) (by decide) (con_X12_isOne  ⟨_, rfl, ?_⟩)
  refine J_if_ne (tgt := 15) (dk okX12_looks 6 rfl) (by decide) (fun h2 => ?_) (fun h2 => ?_)
  · have t := t h2
    refine J_aload_n (dk okX12_looks 9 rfl) 0 rfl rfl ?_
    refine J_iload_n (dk okX12_looks 10 rfl) 1 rfl rfl ?_
    obtain ⟨s3, t⟩ := t
    refine J_callVi (As := [.int p0]) (dk okX12_looks 11 rfl) ds_49 rfl vkX12_wishesOf lkX12_400 rfl rfl (Nat.le_of_ble_eq_true rfl) (by decide) (con_X12_wishesOf s3 ⟨_, rfl, ?_⟩)
    refine J_nm (fun μ4 eμ4 => ?_)
    have t := t μ4 eμ4
    refine J_istore_n (ls' := [(2, _), (0, _), (1, _)]) (dk okX12_looks 12 rfl) rfl (by decide) rfl ?_
    refine J_iload_n (dk okX12_looks 13 rfl) 0 rfl rfl ?_
    refine J_if_ne (tgt := 28) (dk okX12_looks 14 rfl) (by decide) (fun h5 => ?_) (fun h5 => ?_)
    · have t := t h5
      refine J_iconst (v := (-1)) (dk okX12_looks 17 rfl) (by decide) ?_
      refine J_istore_n (ls' := [(3, _), (2, _), (0, _), (1, _)]) (dk okX12_looks 18 rfl) rfl (by decide) rfl ?_
      refine J_ldc_w (v := 1000000) (dk okX12_looks 19 rfl) kcX12_409 ?_
      refine J_istore (ls' := [(4, _), (3, _), (2, _), (0, _), (1, _)]) (dk okX12_looks 20 rfl) (by decide) rfl ?_
      refine J_iconst (v := 0) (dk okX12_looks 21 rfl) (by decide) ?_
      refine J_istore (ls' := [(5, _), (4, _), (3, _), (2, _), (0, _), (1, _)]) (dk okX12_looks 22 rfl) (by decide) rfl ?_
      obtain ⟨s6, t⟩ := t
      refine J_sub (ls' := [(0, _), (2, _), (3, _), (4, _), (5, _)]) [4, 3, 2, 1, 0] rfl ?_
      refine lw_X12_looks_38  s6 (fun r7 er7 => ?_)
      have t := t r7 er7
      refine J_aload_n (dk okX12_looks 80 rfl) 0 rfl rfl ?_
      refine J_iconst (v := 0) (dk okX12_looks 81 rfl) (by decide) ?_
      refine J_put (dk okX12_looks 82 rfl) kpX12_15 ds_49 rfl rfl rfl ?_
      refine J_nm (fun μ8 eμ8 => ?_)
      have t := t μ8 eμ8
      refine J_aload_n (dk okX12_looks 83 rfl) 0 rfl rfl ?_
      refine J_iload (dk okX12_looks 84 rfl) 2 rfl ?_
      refine J_i2l (dk okX12_looks 85 rfl) ?_
      have s9 := t
      refine J_callVv (As := [.long (Int32.toInt64 (r7.2))]) (dk okX12_looks 86 rfl) ds_49 rfl vkX12_enters lkX12_18 rfl rfl (Nat.le_of_ble_eq_true rfl) (by decide) (con_X12_enters s9 ⟨rfl, ?_⟩)
      refine J_nm (fun μ10 eμ10 => ?_)
      refine J_iload_n (dk okX12_looks 87 rfl) 1 rfl rfl ?_
      subst eμ10 eμ8 er7 eμ4 eμ1
      (try simp only [if_neg h2, if_neg h5] at k ⊢)
      exact J_iret (dk okX12_looks 88 rfl) rfl k
    · refine J_bipush (v := (-2)) (dk okX12_looks 15 rfl) (by decide) ?_
      subst eμ4 eμ1
      (try simp only [if_neg h2, if_pos h5] at k ⊢)
      exact J_iret (dk okX12_looks 16 rfl) rfl k
  · refine J_iconst (v := (-1)) (dk okX12_looks 7 rfl) (by decide) ?_
    subst eμ1
    (try simp only [if_pos h2] at k ⊢)
    exact J_iret (dk okX12_looks 8 rfl) rfl k
noncomputable def bd_X12_morning_19  (x1 : Int32) (x2 : Int32) (μ : Mm) : (Int32 × Int32 × Mm) ⊕ (Int32 × Int32 × Mm) := (if x2 = 0 then .inr (x1, x2, μ) else (if (μ.1 49 11) ≤ (μ.1 49 10) then .inr (x1, x2, μ) else (let μ4 : Mm := (e_X12_readsAct  μ); .inl (x1, (v_X12_readsAct  μ), μ4))))
def sd_X12_morning_19   (x1 : Int32) (x2 : Int32) (μ : Mm) : Prop := (¬ (x2 = 0) → (¬ ((μ.1 49 11) ≤ (μ.1 49 10)) → p_X12_readsAct μ))
set_option maxRecDepth 20000 in
set_option maxHeartbeats 4000000 in
theorem lw_X12_morning_19 {E : Ex} {G : Gx} {Q : Option Value → Mm → Prop} {x1 : Int32} {x2 : Int32} {μ : Mm}  (p : whP (fun s : Int32 × Int32 × Mm => bd_X12_morning_19  s.1 s.2.1 s.2.2) (fun s : Int32 × Int32 × Mm => sd_X12_morning_19   s.1 s.2.1 s.2.2) FU (x1, x2, μ)) (k : ∀ r : Int32 × Int32 × Mm, r = whl (fun s : Int32 × Int32 × Mm => bd_X12_morning_19  s.1 s.2.1 s.2.2) (fun s : Int32 × Int32 × Mm => (0, 0, s.2.2)) FU (x1, x2, μ) → J E G 8 mX12_morning Q 42 [(0, rf E 49), (1, .int (r.1)), (2, .int (r.2.1))] [] (r.2.2)) : J E G 8 mX12_morning Q 19 [(0, rf E 49), (1, .int x1), (2, .int x2)] [] μ := by
  refine J_whl (f := (fun s : Int32 × Int32 × Mm => bd_X12_morning_19  s.1 s.2.1 s.2.2)) (dd := (fun s : Int32 × Int32 × Mm => (0, 0, s.2.2))) (sd := (fun s : Int32 × Int32 × Mm => sd_X12_morning_19   s.1 s.2.1 s.2.2)) (P := fun s : Int32 × Int32 × Mm => J E G 8 mX12_morning Q 19 [(0, rf E 49), (1, .int (s.1)), (2, .int (s.2.1))] [] (s.2.2)) (R := fun r : Int32 × Int32 × Mm => J E G 8 mX12_morning Q 42 [(0, rf E 49), (1, .int (r.1)), (2, .int (r.2.1))] [] (r.2.2)) ?_ FU (x1, x2, μ) p (k _ rfl)
  clear p k
  rintro ⟨x1, x2, μ⟩ t k1 k2
  dsimp only [sd_X12_morning_19] at t
  have kb : ∀ (y1 : Int32) (y2 : Int32) (μ9 : Mm), bd_X12_morning_19  x1 x2 μ = .inl (y1, y2, μ9) → J E G 8 mX12_morning Q 19 [(0, rf E 49), (1, .int y1), (2, .int y2)] [] μ9 := fun y1 y2 μ9 h => k1 (y1, y2, μ9) h
  have kx : ∀ (y1 : Int32) (y2 : Int32) (μ9 : Mm), bd_X12_morning_19  x1 x2 μ = .inr (y1, y2, μ9) → J E G 8 mX12_morning Q 42 [(0, rf E 49), (1, .int y1), (2, .int y2)] [] μ9 := fun y1 y2 μ9 h => k2 (y1, y2, μ9) h
  clear k1 k2
  refine J_iload_n (dk okX12_morning 12 rfl) 2 rfl rfl ?_
  refine J_if_eq (tgt := 42) (dk okX12_morning 13 rfl) (by decide) (fun h1 => ?_) (fun h1 => ?_)
  · exact J_sub [0, 1, 2] rfl (kx x1 x2 μ (by unfold bd_X12_morning_19; first | (simp only [if_pos h1]; done) | (simp only [if_pos h1]; rfl) | rfl))
  · have t := t h1
    refine J_aload_n (dk okX12_morning 14 rfl) 0 rfl rfl ?_
    refine J_getI (dk okX12_morning 15 rfl) kfX12_144 ds_49 rfl ?_
    refine J_aload_n (dk okX12_morning 16 rfl) 0 rfl rfl ?_
    refine J_getI (dk okX12_morning 17 rfl) kfX12_156 ds_49 rfl ?_
    refine J_icmp_ge (tgt := 42) (dk okX12_morning 18 rfl) (by decide) (fun h2 => ?_) (fun h2 => ?_)
    · exact J_sub [0, 1, 2] rfl (kx x1 x2 μ (by unfold bd_X12_morning_19; first | (simp only [if_neg h1, if_pos h2]; done) | (simp only [if_neg h1, if_pos h2]; rfl) | rfl))
    · have t := t h2
      refine J_aload_n (dk okX12_morning 19 rfl) 0 rfl rfl ?_
      have s3 := t
      refine J_callVi (As := []) (dk okX12_morning 20 rfl) ds_49 rfl vkX12_readsAct lkX12_337 rfl rfl (Nat.le_of_ble_eq_true rfl) (by decide) (con_X12_readsAct s3 ⟨_, rfl, ?_⟩)
      refine J_nm (fun μ4 eμ4 => ?_)
      refine J_istore_n (ls' := [(2, _), (0, _), (1, _)]) (dk okX12_morning 21 rfl) rfl (by decide) rfl ?_
      refine J_goto (tgt := 19) (dk okX12_morning 22 rfl) (by decide) ?_
      exact J_sub [1, 2, 0] rfl (kb x1 (v_X12_readsAct  μ) μ4 (by subst eμ4; unfold bd_X12_morning_19; first | (simp only [if_neg h1, if_neg h2]; done) | (simp only [if_neg h1, if_neg h2]; rfl) | rfl))
noncomputable def bd_X12_morning_64  (x4 : Int32) (μ : Mm) : (Int32 × Mm) ⊕ (Int32 × Mm) := (if (μ.1 49 29) ≤ x4 then .inr (x4, μ) else (let μ3 : Mm := (e_X12_does x4 μ); (if (v_X12_does x4 μ) = 0 then .inr (x4, μ3) else .inl ((x4 + 1), μ3))))
def sd_X12_morning_64   (x4 : Int32) (μ : Mm) : Prop := (¬ ((μ.1 49 29) ≤ x4) → p_X12_does x4 μ)
set_option maxRecDepth 20000 in
set_option maxHeartbeats 4000000 in
theorem lw_X12_morning_64 {E : Ex} {G : Gx} {Q : Option Value → Mm → Prop} {x4 : Int32} {μ : Mm}  (p : whP (fun s : Int32 × Mm => bd_X12_morning_64  s.1 s.2) (fun s : Int32 × Mm => sd_X12_morning_64   s.1 s.2) FU (x4, μ)) (k : ∀ r : Int32 × Mm, r = whl (fun s : Int32 × Mm => bd_X12_morning_64  s.1 s.2) (fun s : Int32 × Mm => (0, s.2)) FU (x4, μ) → J E G 8 mX12_morning Q 88 [(0, rf E 49), (4, .int (r.1))] [] (r.2)) : J E G 8 mX12_morning Q 64 [(0, rf E 49), (4, .int x4)] [] μ := by
  refine J_whl (f := (fun s : Int32 × Mm => bd_X12_morning_64  s.1 s.2)) (dd := (fun s : Int32 × Mm => (0, s.2))) (sd := (fun s : Int32 × Mm => sd_X12_morning_64   s.1 s.2)) (P := fun s : Int32 × Mm => J E G 8 mX12_morning Q 64 [(0, rf E 49), (4, .int (s.1))] [] (s.2)) (R := fun r : Int32 × Mm => J E G 8 mX12_morning Q 88 [(0, rf E 49), (4, .int (r.1))] [] (r.2)) ?_ FU (x4, μ) p (k _ rfl)
  clear p k
  rintro ⟨x4, μ⟩ t k1 k2
  dsimp only [sd_X12_morning_64] at t
  have kb : ∀ (y4 : Int32) (μ9 : Mm), bd_X12_morning_64  x4 μ = .inl (y4, μ9) → J E G 8 mX12_morning Q 64 [(0, rf E 49), (4, .int y4)] [] μ9 := fun y4 μ9 h => k1 (y4, μ9) h
  have kx : ∀ (y4 : Int32) (μ9 : Mm), bd_X12_morning_64  x4 μ = .inr (y4, μ9) → J E G 8 mX12_morning Q 88 [(0, rf E 49), (4, .int y4)] [] μ9 := fun y4 μ9 h => k2 (y4, μ9) h
  clear k1 k2
  refine J_iload (dk okX12_morning 37 rfl) 1 rfl ?_
  refine J_aload_n (dk okX12_morning 38 rfl) 0 rfl rfl ?_
  refine J_getI (dk okX12_morning 39 rfl) kfX12_330 ds_49 rfl ?_
  refine J_icmp_ge (tgt := 88) (dk okX12_morning 40 rfl) (by decide) (fun h1 => ?_) (fun h1 => ?_)
  · exact J_sub [0, 1] rfl (kx x4 μ (by unfold bd_X12_morning_64; first | (simp only [if_pos h1]; done) | (simp only [if_pos h1]; rfl) | rfl))
  · have t := t h1
    refine J_aload_n (dk okX12_morning 41 rfl) 0 rfl rfl ?_
    refine J_iload (dk okX12_morning 42 rfl) 1 rfl ?_
    have s2 := t
    refine J_callVi (As := [.int x4]) (dk okX12_morning 43 rfl) ds_49 rfl vkX12_does lkX12_340 rfl rfl (Nat.le_of_ble_eq_true rfl) (by decide) (con_X12_does s2 ⟨_, rfl, ?_⟩)
    refine J_nm (fun μ3 eμ3 => ?_)
    refine J_if_eq (tgt := 88) (dk okX12_morning 44 rfl) (by decide) (fun h4 => ?_) (fun h4 => ?_)
    · exact J_sub [0, 1] rfl (kx x4 μ3 (by subst eμ3; unfold bd_X12_morning_64; first | (simp only [if_neg h1, if_pos h4]; done) | (simp only [if_neg h1, if_pos h4]; rfl) | rfl))
    · refine J_iinc (v := (x4 + 1)) (ls' := [(4, _), (0, _)]) (dk okX12_morning 45 rfl) 1 rfl rfl (by decide) rfl ?_
      refine J_goto (tgt := 64) (dk okX12_morning 46 rfl) (by decide) ?_
      exact J_sub [1, 0] rfl (kb (x4 + 1) μ3 (by subst eμ3; unfold bd_X12_morning_64; first | (simp only [if_neg h1, if_neg h4]; done) | (simp only [if_neg h1, if_neg h4]; rfl) | rfl))
/-- VotingFloorModel.morning()I -/
noncomputable def v_X12_morning  (μ : Mm) : Int32 := (let μ1 : Mm := (upI μ 49 0 0); (let μ2 : Mm := (e_X12_begins 60 μ1); (let μ3 : Mm := (upI μ2 49 29 0); (let r5 : Int32 × Int32 × Mm := whl (fun s : Int32 × Int32 × Mm => bd_X12_morning_19  s.1 s.2.1 s.2.2) (fun s : Int32 × Int32 × Mm => (0, 0, s.2.2)) FU ((v_X12_begins 60 μ1), 1, μ3); (if 0 ≤ (v_X12_faultOf (r5.1) 60 (r5.2.1) (r5.2.2)) then (let μ8 : Mm := (e_X12_putsBy  (r5.2.2)); (let r10 : Int32 × Mm := whl (fun s : Int32 × Mm => bd_X12_morning_64  s.1 s.2) (fun s : Int32 × Mm => (0, s.2)) FU (0, μ8); (let μ11 : Mm := (upI (r10.2) 49 1 0); (let μ15 : Mm := (e_X12_enters (Int32.toInt64 (v_X12_flag (if (μ11.1 49 29) ≤ (r10.1) then 0 else 1 : Int32))) μ11); (let μ18 : Mm := (e_X12_enters (Int32.toInt64 (2000 + (v_X12_moment 52 μ15))) μ15); (if (r10.1) ≤ 0 then 0 else (v_X12_adds (r10.1) μ18) : Int32)))))) else (v_X12_faultOf (r5.1) 60 (r5.2.1) (r5.2.2)))))))
noncomputable def e_X12_morning  (μ : Mm) : Mm := (let μ1 : Mm := (upI μ 49 0 0); (let μ2 : Mm := (e_X12_begins 60 μ1); (let μ3 : Mm := (upI μ2 49 29 0); (let r5 : Int32 × Int32 × Mm := whl (fun s : Int32 × Int32 × Mm => bd_X12_morning_19  s.1 s.2.1 s.2.2) (fun s : Int32 × Int32 × Mm => (0, 0, s.2.2)) FU ((v_X12_begins 60 μ1), 1, μ3); (if 0 ≤ (v_X12_faultOf (r5.1) 60 (r5.2.1) (r5.2.2)) then (let μ8 : Mm := (e_X12_putsBy  (r5.2.2)); (let r10 : Int32 × Mm := whl (fun s : Int32 × Mm => bd_X12_morning_64  s.1 s.2) (fun s : Int32 × Mm => (0, s.2)) FU (0, μ8); (let μ11 : Mm := (upI (r10.2) 49 1 0); (let μ15 : Mm := (e_X12_enters (Int32.toInt64 (v_X12_flag (if (μ11.1 49 29) ≤ (r10.1) then 0 else 1 : Int32))) μ11); (let μ18 : Mm := (e_X12_enters (Int32.toInt64 (2000 + (v_X12_moment 52 μ15))) μ15); (let μ22 : Mm := (if (r10.1) ≤ 0 then μ18 else ((e_X12_adds (r10.1) μ18)) : Mm); μ22)))))) else (r5.2.2))))))
def p_X12_morning   (μ : Mm) : Prop := (∀ μ1 : Mm, μ1 = (upI μ 49 0 0) → (∀ μ2 : Mm, μ2 = (e_X12_begins 60 μ1) → (∀ μ3 : Mm, μ3 = (upI μ2 49 29 0) → (whP (fun s : Int32 × Int32 × Mm => bd_X12_morning_19  s.1 s.2.1 s.2.2) (fun s : Int32 × Int32 × Mm => sd_X12_morning_19   s.1 s.2.1 s.2.2) FU ((v_X12_begins 60 μ1), 1, μ3)) ∧ (∀ r5 : Int32 × Int32 × Mm, r5 = whl (fun s : Int32 × Int32 × Mm => bd_X12_morning_19  s.1 s.2.1 s.2.2) (fun s : Int32 × Int32 × Mm => (0, 0, s.2.2)) FU ((v_X12_begins 60 μ1), 1, μ3) → (0 ≤ (v_X12_faultOf (r5.1) 60 (r5.2.1) (r5.2.2)) → (p_X12_putsBy (r5.2.2)) ∧ (∀ μ8 : Mm, μ8 = (e_X12_putsBy  (r5.2.2)) → (whP (fun s : Int32 × Mm => bd_X12_morning_64  s.1 s.2) (fun s : Int32 × Mm => sd_X12_morning_64   s.1 s.2) FU (0, μ8)) ∧ (∀ r10 : Int32 × Mm, r10 = whl (fun s : Int32 × Mm => bd_X12_morning_64  s.1 s.2) (fun s : Int32 × Mm => (0, s.2)) FU (0, μ8) → (∀ μ11 : Mm, μ11 = (upI (r10.2) 49 1 0) → (p_X12_enters (Int32.toInt64 (v_X12_flag (if (μ11.1 49 29) ≤ (r10.1) then 0 else 1 : Int32))) μ11) ∧ (∀ μ15 : Mm, μ15 = (e_X12_enters (Int32.toInt64 (v_X12_flag (if (μ11.1 49 29) ≤ (r10.1) then 0 else 1 : Int32))) μ11) → (p_X12_moment 52 μ15) ∧ (p_X12_enters (Int32.toInt64 (2000 + (v_X12_moment 52 μ15))) μ15) ∧ (∀ μ18 : Mm, μ18 = (e_X12_enters (Int32.toInt64 (2000 + (v_X12_moment 52 μ15))) μ15) → (¬ ((r10.1) ≤ 0) → p_X12_adds (r10.1) μ18)))))))))))
set_option maxRecDepth 20000 in
set_option maxHeartbeats 4000000 in
theorem con_X12_morning {E : Ex} {Q : Option Value → Mm → Prop} {μ : Mm} (t : p_X12_morning   μ) (k : Q (some (.int (v_X12_morning  μ))) (e_X12_morning  μ)) : Con E 8 mX12_morning [rf E 49] μ Q := by
  refine Con_J (by decide +kernel) (Nat.le_of_ble_eq_true rfl) (fun G => ?_)
  unfold v_X12_morning e_X12_morning at k
  unfold p_X12_morning at t
  refine J_sub (ls' := [(0, rf E 49)]) [0] rfl ?_
  refine J_aload_n (dk okX12_morning 0 rfl) 0 rfl rfl ?_
  refine J_iconst (v := 0) (dk okX12_morning 1 rfl) (by decide) ?_
  refine J_put (dk okX12_morning 2 rfl) kpX12_3 ds_49 rfl rfl rfl ?_
  refine J_nm (fun μ1 eμ1 => ?_)
  have t := t μ1 eμ1
  refine J_aload_n (dk okX12_morning 3 rfl) 0 rfl rfl ?_
  refine J_bipush (v := 60) (dk okX12_morning 4 rfl) (by decide) ?_
  refine J_callVi (As := [.int 60]) (dk okX12_morning 5 rfl) ds_49 rfl vkX12_begins lkX12_199 rfl rfl (Nat.le_of_ble_eq_true rfl) (by decide) (con_X12_begins  ⟨_, rfl, ?_⟩)
  refine J_nm (fun μ2 eμ2 => ?_)
  have t := t μ2 eμ2
  refine J_istore_n (ls' := [(1, _), (0, _)]) (dk okX12_morning 6 rfl) rfl (by decide) rfl ?_
  refine J_aload_n (dk okX12_morning 7 rfl) 1 rfl rfl ?_
  refine J_iconst (v := 0) (dk okX12_morning 8 rfl) (by decide) ?_
  refine J_put (dk okX12_morning 9 rfl) kpX12_330 ds_49 rfl rfl rfl ?_
  refine J_nm (fun μ3 eμ3 => ?_)
  have t := t μ3 eμ3
  refine J_iconst (v := 1) (dk okX12_morning 10 rfl) (by decide) ?_
  refine J_istore_n (ls' := [(2, _), (1, _), (0, _)]) (dk okX12_morning 11 rfl) rfl (by decide) rfl ?_
  obtain ⟨s4, t⟩ := t
  refine J_sub (ls' := [(0, _), (1, _), (2, _)]) [2, 1, 0] rfl ?_
  refine lw_X12_morning_19  s4 (fun r5 er5 => ?_)
  have t := t r5 er5
  refine J_aload_n (dk okX12_morning 23 rfl) 0 rfl rfl ?_
  refine J_iload_n (dk okX12_morning 24 rfl) 1 rfl rfl ?_
  refine J_bipush (v := 60) (dk okX12_morning 25 rfl) (by decide) ?_
  refine J_iload_n (dk okX12_morning 26 rfl) 2 rfl rfl ?_
  refine J_callVi (As := [.int (r5.1), .int 60, .int (r5.2.1)]) (dk okX12_morning 27 rfl) ds_49 rfl vkX12_faultOf lkX12_209 rfl rfl (Nat.le_of_ble_eq_true rfl) (by decide) (con_X12_faultOf  ⟨_, rfl, ?_⟩)
  refine J_istore_n (ls' := [(3, _), (0, _), (1, _), (2, _)]) (dk okX12_morning 28 rfl) rfl (by decide) rfl ?_
  refine J_iload_n (dk okX12_morning 29 rfl) 0 rfl rfl ?_
  refine J_if_ge (tgt := 57) (dk okX12_morning 30 rfl) (by decide) (fun h6 => ?_) (fun h6 => ?_)
  · have t := t h6
    refine J_aload_n (dk okX12_morning 33 rfl) 1 rfl rfl ?_
    obtain ⟨s7, t⟩ := t
    refine J_callVv (As := []) (dk okX12_morning 34 rfl) ds_49 rfl vkX12_putsBy lkX12_306 rfl rfl (Nat.le_of_ble_eq_true rfl) (by decide) (con_X12_putsBy s7 ⟨rfl, ?_⟩)
    refine J_nm (fun μ8 eμ8 => ?_)
    have t := t μ8 eμ8
    refine J_iconst (v := 0) (dk okX12_morning 35 rfl) (by decide) ?_
    refine J_istore (ls' := [(4, _), (3, _), (0, _), (1, _), (2, _)]) (dk okX12_morning 36 rfl) (by decide) rfl ?_
    obtain ⟨s9, t⟩ := t
    refine J_sub (ls' := [(0, _), (4, _)]) [2, 0] rfl ?_
    refine lw_X12_morning_64  s9 (fun r10 er10 => ?_)
    have t := t r10 er10
    refine J_aload_n (dk okX12_morning 47 rfl) 0 rfl rfl ?_
    refine J_iconst (v := 0) (dk okX12_morning 48 rfl) (by decide) ?_
    refine J_put (dk okX12_morning 49 rfl) kpX12_15 ds_49 rfl rfl rfl ?_
    refine J_nm (fun μ11 eμ11 => ?_)
    have t := t μ11 eμ11
    refine J_aload_n (dk okX12_morning 50 rfl) 0 rfl rfl ?_
    refine J_iload (dk okX12_morning 51 rfl) 1 rfl ?_
    refine J_aload_n (dk okX12_morning 52 rfl) 0 rfl rfl ?_
    refine J_getI (dk okX12_morning 53 rfl) kfX12_330 ds_49 rfl ?_
    have K13 : J E G 8 mX12_morning Q 108 [(0, rf E 49), (4, .int (r10.1))] [.int (if (μ11.1 49 29) ≤ (r10.1) then 0 else 1 : Int32), rf E 49] μ11 := by
      refine J_callSi (As := [.int (if (μ11.1 49 29) ≤ (r10.1) then 0 else 1 : Int32)]) (dk okX12_morning 58 rfl) skX12_flag lkX12_137 rfl rfl (Nat.le_of_ble_eq_true rfl) (by decide) (con_X12_flag  ⟨_, rfl, ?_⟩)
      refine J_i2l (dk okX12_morning 59 rfl) ?_
      obtain ⟨s14, t⟩ := t
      refine J_callVv (As := [.long (Int32.toInt64 (v_X12_flag (if (μ11.1 49 29) ≤ (r10.1) then 0 else 1 : Int32)))]) (dk okX12_morning 60 rfl) ds_49 rfl vkX12_enters lkX12_18 rfl rfl (Nat.le_of_ble_eq_true rfl) (by decide) (con_X12_enters s14 ⟨rfl, ?_⟩)
      refine J_nm (fun μ15 eμ15 => ?_)
      have t := t μ15 eμ15
      refine J_aload_n (dk okX12_morning 61 rfl) 0 rfl rfl ?_
      refine J_sipush (v := 2000) (dk okX12_morning 62 rfl) (by decide) ?_
      refine J_aload_n (dk okX12_morning 63 rfl) 0 rfl rfl ?_
      refine J_aload_n (dk okX12_morning 64 rfl) 0 rfl rfl ?_
      refine J_getR (dk okX12_morning 65 rfl) kfX12_32 ds_49 rfl ?_
      obtain ⟨s16, t⟩ := t
      refine J_callVi (As := [rf E 52]) (dk okX12_morning 66 rfl) ds_49 rfl vkX12_moment lkX12_275 rfl rfl (Nat.le_of_ble_eq_true rfl) (by decide) (con_X12_moment ds_52 s16 ⟨_, rfl, ?_⟩)
      refine J_iadd (dk okX12_morning 67 rfl) ?_
      refine J_i2l (dk okX12_morning 68 rfl) ?_
      obtain ⟨s17, t⟩ := t
      refine J_callVv (As := [.long (Int32.toInt64 (2000 + (v_X12_moment 52 μ15)))]) (dk okX12_morning 69 rfl) ds_49 rfl vkX12_enters lkX12_18 rfl rfl (Nat.le_of_ble_eq_true rfl) (by decide) (con_X12_enters s17 ⟨rfl, ?_⟩)
      refine J_nm (fun μ18 eμ18 => ?_)
      have t := t μ18 eμ18
      refine J_iload (dk okX12_morning 70 rfl) 1 rfl ?_
      have K23 : J E G 8 mX12_morning Q 147 [] [.int (if (r10.1) ≤ 0 then 0 else (v_X12_adds (r10.1) μ18) : Int32)] (if (r10.1) ≤ 0 then μ18 else ((e_X12_adds (r10.1) μ18)) : Mm) := by
        refine J_nm (fun μ22 eμ22 => ?_)
        subst eμ22 eμ18 eμ15 eμ11 er10 eμ8 er5 eμ3 eμ2 eμ1
        (try simp only [if_pos h6] at k ⊢)
        exact J_iret (dk okX12_morning 77 rfl) rfl k
      refine J_if_le (tgt := 146) (dk okX12_morning 71 rfl) (by decide) (fun h19 => ?_) (fun h19 => ?_)
      · refine J_iconst (v := 0) (dk okX12_morning 76 rfl) (by decide) ?_
        refine J_sub (ls' := []) [] rfl ?_
        (try simp only [if_pos h19] at K23 ⊢); exact K23
      · have t := t h19
        refine J_aload_n (dk okX12_morning 72 rfl) 0 rfl rfl ?_
        refine J_iload (dk okX12_morning 73 rfl) 1 rfl ?_
        have s20 := t
        refine J_callVi (As := [.int (r10.1)]) (dk okX12_morning 74 rfl) ds_49 rfl vkX12_adds lkX12_287 rfl rfl (Nat.le_of_ble_eq_true rfl) (by decide) (con_X12_adds s20 ⟨_, rfl, ?_⟩)
        refine J_nm (fun μ21 eμ21 => ?_)
        refine J_goto (tgt := 147) (dk okX12_morning 75 rfl) (by decide) ?_
        subst eμ21
        refine J_sub (ls' := []) [] rfl ?_
        (try simp only [if_neg h19] at K23 ⊢); exact K23
    refine J_icmp_ge (tgt := 107) (dk okX12_morning 54 rfl) (by decide) (fun h12 => ?_) (fun h12 => ?_)
    · refine J_iconst (v := 0) (dk okX12_morning 57 rfl) (by decide) ?_
      refine J_sub (ls' := [(0, _), (4, _)]) [0, 1] rfl ?_
      (try simp only [if_pos h12] at K13 ⊢); exact K13
    · refine J_iconst (v := 1) (dk okX12_morning 55 rfl) (by decide) ?_
      refine J_goto (tgt := 108) (dk okX12_morning 56 rfl) (by decide) ?_
      refine J_sub (ls' := [(0, _), (4, _)]) [0, 1] rfl ?_
      (try simp only [if_neg h12] at K13 ⊢); exact K13
  · refine J_iload_n (dk okX12_morning 31 rfl) 0 rfl rfl ?_
    subst er5 eμ3 eμ2 eμ1
    (try simp only [if_neg h6] at k ⊢)
    exact J_iret (dk okX12_morning 32 rfl) rfl k
noncomputable def bd_X12_people_29  (x1 : Int32) (x2 : Int32) (x3 : Int32) (μ : Mm) : (Int32 × Int32 × Int32 × Mm) ⊕ (Int32 × Int32 × Mm) := (if x3 = 0 then .inr (x1, x2, μ) else (let μ3 : Mm := (e_X12_readsOne  μ); (let μ8 : Mm := (if (v_X12_readsOne  μ) = 0 then μ3 else ((e_X12_takes 59 μ3)) : Mm); .inl (x1, (v_X12_readsOne  μ), (if (v_X12_readsOne  μ) = 0 then 0 else (if (v_X12_takes 59 μ3) = 0 then 0 else 1 : Int32) : Int32), μ8))))
def sd_X12_people_29   (x1 : Int32) (x2 : Int32) (x3 : Int32) (μ : Mm) : Prop := (¬ (x3 = 0) → (p_X12_readsOne μ) ∧ (∀ μ3 : Mm, μ3 = (e_X12_readsOne  μ) → (¬ ((v_X12_readsOne  μ) = 0) → p_X12_takes 59 μ3)))
set_option maxRecDepth 20000 in
set_option maxHeartbeats 4000000 in
theorem lw_X12_people_29 {E : Ex} {G : Gx} {Q : Option Value → Mm → Prop} {x1 : Int32} {x2 : Int32} {x3 : Int32} {μ : Mm}  (p : whP (fun s : Int32 × Int32 × Int32 × Mm => bd_X12_people_29  s.1 s.2.1 s.2.2.1 s.2.2.2) (fun s : Int32 × Int32 × Int32 × Mm => sd_X12_people_29   s.1 s.2.1 s.2.2.1 s.2.2.2) FU (x1, x2, x3, μ)) (k : ∀ r : Int32 × Int32 × Mm, r = whl (fun s : Int32 × Int32 × Int32 × Mm => bd_X12_people_29  s.1 s.2.1 s.2.2.1 s.2.2.2) (fun s : Int32 × Int32 × Int32 × Mm => (0, 0, s.2.2.2)) FU (x1, x2, x3, μ) → J E G 8 mX12_people Q 60 [(0, rf E 49), (1, .int (r.1)), (2, .int (r.2.1))] [] (r.2.2)) : J E G 8 mX12_people Q 29 [(0, rf E 49), (1, .int x1), (2, .int x2), (3, .int x3)] [] μ := by
  refine J_whl (f := (fun s : Int32 × Int32 × Int32 × Mm => bd_X12_people_29  s.1 s.2.1 s.2.2.1 s.2.2.2)) (dd := (fun s : Int32 × Int32 × Int32 × Mm => (0, 0, s.2.2.2))) (sd := (fun s : Int32 × Int32 × Int32 × Mm => sd_X12_people_29   s.1 s.2.1 s.2.2.1 s.2.2.2)) (P := fun s : Int32 × Int32 × Int32 × Mm => J E G 8 mX12_people Q 29 [(0, rf E 49), (1, .int (s.1)), (2, .int (s.2.1)), (3, .int (s.2.2.1))] [] (s.2.2.2)) (R := fun r : Int32 × Int32 × Mm => J E G 8 mX12_people Q 60 [(0, rf E 49), (1, .int (r.1)), (2, .int (r.2.1))] [] (r.2.2)) ?_ FU (x1, x2, x3, μ) p (k _ rfl)
  clear p k
  rintro ⟨x1, x2, x3, μ⟩ t k1 k2
  dsimp only [sd_X12_people_29] at t
  have kb : ∀ (y1 : Int32) (y2 : Int32) (y3 : Int32) (μ9 : Mm), bd_X12_people_29  x1 x2 x3 μ = .inl (y1, y2, y3, μ9) → J E G 8 mX12_people Q 29 [(0, rf E 49), (1, .int y1), (2, .int y2), (3, .int y3)] [] μ9 := fun y1 y2 y3 μ9 h => k1 (y1, y2, y3, μ9) h
  have kx : ∀ (y1 : Int32) (y2 : Int32) (μ9 : Mm), bd_X12_people_29  x1 x2 x3 μ = .inr (y1, y2, μ9) → J E G 8 mX12_people Q 60 [(0, rf E 49), (1, .int y1), (2, .int y2)] [] μ9 := fun y1 y2 μ9 h => k2 (y1, y2, μ9) h
  clear k1 k2
  refine J_iload_n (dk okX12_people 18 rfl) 3 rfl rfl ?_
  refine J_if_eq (tgt := 60) (dk okX12_people 19 rfl) (by decide) (fun h1 => ?_) (fun h1 => ?_)
  · exact J_sub [0, 1, 2] rfl (kx x1 x2 μ (by unfold bd_X12_people_29; first | (simp only [if_pos h1]; done) | (simp only [if_pos h1]; rfl) | rfl))
  · have t := t h1
    refine J_aload_n (dk okX12_people 20 rfl) 0 rfl rfl ?_
    obtain ⟨s2, t⟩ := t
    refine J_callVi (As := []) (dk okX12_people 21 rfl) ds_49 rfl vkX12_readsOne lkX12_202 rfl rfl (Nat.le_of_ble_eq_true rfl) (by decide) (con_X12_readsOne s2 ⟨_, rfl, ?_⟩)
    refine J_nm (fun μ3 eμ3 => ?_)
    have t := t μ3 eμ3
    refine J_istore_n (ls' := [(2, _), (0, _), (1, _), (3, _)]) (dk okX12_people 22 rfl) rfl (by decide) rfl ?_
    refine J_iload_n (dk okX12_people 23 rfl) 0 rfl rfl ?_
    have K9 : J E G 8 mX12_people Q 56 [(0, rf E 49), (1, .int x1), (2, .int (v_X12_readsOne  μ))] [.int (if (v_X12_readsOne  μ) = 0 then 0 else (if (v_X12_takes 59 μ3) = 0 then 0 else 1 : Int32) : Int32)] (if (v_X12_readsOne  μ) = 0 then μ3 else ((e_X12_takes 59 μ3)) : Mm) := by
      refine J_nm (fun μ8 eμ8 => ?_)
      refine J_istore_n (ls' := [(3, _), (0, _), (1, _), (2, _)]) (dk okX12_people 32 rfl) rfl (by decide) rfl ?_
      refine J_goto (tgt := 29) (dk okX12_people 33 rfl) (by decide) ?_
      exact J_sub [1, 2, 3, 0] rfl (kb x1 (v_X12_readsOne  μ) (if (v_X12_readsOne  μ) = 0 then 0 else (if (v_X12_takes 59 μ3) = 0 then 0 else 1 : Int32) : Int32) μ8 (by subst eμ8 eμ3; unfold bd_X12_people_29; first | (simp only [if_neg h1]; done) | (simp only [if_neg h1]; rfl) | rfl))
    refine J_if_eq (tgt := 55) (dk okX12_people 24 rfl) (by decide) (fun h4 => ?_) (fun h4 => ?_)
    · refine J_iconst (v := 0) (dk okX12_people 31 rfl) (by decide) ?_
      refine J_sub (ls' := [(0, _), (1, _), (2, _)]) [1, 2, 0] rfl ?_
      (try simp only [if_pos h4] at K9 ⊢); exact K9
    · have t := t h4
      refine J_aload_n (dk okX12_people 25 rfl) 1 rfl rfl ?_
      refine J_bipush (v := 59) (dk okX12_people 26 rfl) (by decide) ?_
      have s5 := t
      refine J_callVi (As := [.int 59]) (dk okX12_people 27 rfl) ds_49 rfl vkX12_takes lkX12_205 rfl rfl (Nat.le_of_ble_eq_true rfl) (by decide) (con_X12_takes s5 ⟨_, rfl, ?_⟩)
      refine J_nm (fun μ6 eμ6 => ?_)
      refine J_if_eq (tgt := 55) (dk okX12_people 28 rfl) (by decide) (fun h7 => ?_) (fun h7 => ?_)
      · refine J_iconst (v := 0) (dk okX12_people 31 rfl) (by decide) ?_
        subst eμ6
        refine J_sub (ls' := [(0, _), (1, _), (2, _)]) [1, 2, 0] rfl ?_
        (try simp only [if_neg h4, if_pos h7] at K9 ⊢); exact K9
      · refine J_iconst (v := 1) (dk okX12_people 29 rfl) (by decide) ?_
        refine J_goto (tgt := 56) (dk okX12_people 30 rfl) (by decide) ?_
        subst eμ6
        refine J_sub (ls' := [(0, _), (1, _), (2, _)]) [1, 2, 0] rfl ?_
        (try simp only [if_neg h4, if_neg h7] at K9 ⊢); exact K9
noncomputable def bd_X12_people_81  (x5 : Int32) (μ : Mm) : (Int32 × Mm) ⊕ (Mm) := (if (μ.1 49 16) ≤ x5 then .inr μ else (let μ4 : Mm := (upI μ 51 (Int32.toNatClampNeg (μ.1 49 3)) (μ.1 55 (Int32.toNatClampNeg x5))); (let μ7 : Mm := (upI μ4 52 (Int32.toNatClampNeg (μ4.1 49 3)) (μ4.1 56 (Int32.toNatClampNeg x5))); (let μ8 : Mm := (upI μ7 49 3 ((μ7.1 49 3) + 1)); .inl ((x5 + 1), μ8)))))
def sd_X12_people_81   (x5 : Int32) (μ : Mm) : Prop := (¬ ((μ.1 49 16) ≤ x5) → (vp_in x5 7) ∧ (vp_in (μ.1 49 3) 7) ∧ (∀ μ4 : Mm, μ4 = (upI μ 51 (Int32.toNatClampNeg (μ.1 49 3)) (μ.1 55 (Int32.toNatClampNeg x5))) → (vp_in x5 7) ∧ vp_in (μ4.1 49 3) 24))
set_option maxRecDepth 20000 in
set_option maxHeartbeats 4000000 in
theorem lw_X12_people_81 {E : Ex} {G : Gx} {Q : Option Value → Mm → Prop} {x5 : Int32} {μ : Mm}  (p : whP (fun s : Int32 × Mm => bd_X12_people_81  s.1 s.2) (fun s : Int32 × Mm => sd_X12_people_81   s.1 s.2) FU (x5, μ)) (k : ∀ r : Mm, r = whl (fun s : Int32 × Mm => bd_X12_people_81  s.1 s.2) (fun s : Int32 × Mm => s.2) FU (x5, μ) → J E G 8 mX12_people Q 138 [(0, rf E 49)] [] r) : J E G 8 mX12_people Q 81 [(0, rf E 49), (5, .int x5)] [] μ := by
  refine J_whl (f := (fun s : Int32 × Mm => bd_X12_people_81  s.1 s.2)) (dd := (fun s : Int32 × Mm => s.2)) (sd := (fun s : Int32 × Mm => sd_X12_people_81   s.1 s.2)) (P := fun s : Int32 × Mm => J E G 8 mX12_people Q 81 [(0, rf E 49), (5, .int (s.1))] [] (s.2)) (R := fun r : Mm => J E G 8 mX12_people Q 138 [(0, rf E 49)] [] r) ?_ FU (x5, μ) p (k _ rfl)
  clear p k
  rintro ⟨x5, μ⟩ t k1 k2
  dsimp only [sd_X12_people_81] at t
  have kb : ∀ (y5 : Int32) (μ9 : Mm), bd_X12_people_81  x5 μ = .inl (y5, μ9) → J E G 8 mX12_people Q 81 [(0, rf E 49), (5, .int y5)] [] μ9 := fun y5 μ9 h => k1 (y5, μ9) h
  have kx : ∀  (μ9 : Mm), bd_X12_people_81  x5 μ = .inr μ9 → J E G 8 mX12_people Q 138 [(0, rf E 49)] [] μ9 := fun  μ9 h => k2 μ9 h
  clear k1 k2
  refine J_iload (dk okX12_people 46 rfl) 1 rfl ?_
  refine J_aload_n (dk okX12_people 47 rfl) 0 rfl rfl ?_
  refine J_getI (dk okX12_people 48 rfl) kfX12_187 ds_49 rfl ?_
  refine J_icmp_ge (tgt := 138) (dk okX12_people 49 rfl) (by decide) (fun h1 => ?_) (fun h1 => ?_)
  · exact J_sub [0] rfl (kx μ (by unfold bd_X12_people_81; first | (simp only [if_pos h1]; done) | (simp only [if_pos h1]; rfl) | rfl))
  · have t := t h1
    refine J_aload_n (dk okX12_people 50 rfl) 0 rfl rfl ?_
    refine J_getR (dk okX12_people 51 rfl) kfX12_28 ds_49 rfl ?_
    refine J_aload_n (dk okX12_people 52 rfl) 0 rfl rfl ?_
    refine J_getI (dk okX12_people 53 rfl) kfX12_111 ds_49 rfl ?_
    refine J_aload_n (dk okX12_people 54 rfl) 0 rfl rfl ?_
    refine J_getR (dk okX12_people 55 rfl) kfX12_41 ds_49 rfl ?_
    refine J_iload (dk okX12_people 56 rfl) 1 rfl ?_
    obtain ⟨s2, t⟩ := t
    refine J_iald (dk okX12_people 57 rfl) ds_55 s2 ?_
    obtain ⟨s3, t⟩ := t
    refine J_iast (dk okX12_people 58 rfl) ds_51 s3 ?_
    refine J_nm (fun μ4 eμ4 => ?_)
    have t := t μ4 eμ4
    refine J_aload_n (dk okX12_people 59 rfl) 0 rfl rfl ?_
    refine J_getR (dk okX12_people 60 rfl) kfX12_32 ds_49 rfl ?_
    refine J_aload_n (dk okX12_people 61 rfl) 0 rfl rfl ?_
    refine J_getI (dk okX12_people 62 rfl) kfX12_111 ds_49 rfl ?_
    refine J_aload_n (dk okX12_people 63 rfl) 0 rfl rfl ?_
    refine J_getR (dk okX12_people 64 rfl) kfX12_44 ds_49 rfl ?_
    refine J_iload (dk okX12_people 65 rfl) 1 rfl ?_
    obtain ⟨s5, t⟩ := t
    refine J_iald (dk okX12_people 66 rfl) ds_56 s5 ?_
    have s6 := t
    refine J_iast (dk okX12_people 67 rfl) ds_52 s6 ?_
    refine J_nm (fun μ7 eμ7 => ?_)
    refine J_aload_n (dk okX12_people 68 rfl) 0 rfl rfl ?_
    refine J_dup (dk okX12_people 69 rfl) rfl ?_
    refine J_getI (dk okX12_people 70 rfl) kfX12_111 ds_49 rfl ?_
    refine J_iconst (v := 1) (dk okX12_people 71 rfl) (by decide) ?_
    refine J_iadd (dk okX12_people 72 rfl) ?_
    refine J_put (dk okX12_people 73 rfl) kpX12_111 ds_49 rfl rfl rfl ?_
    refine J_nm (fun μ8 eμ8 => ?_)
    refine J_iinc (v := (x5 + 1)) (ls' := [(5, _), (0, _)]) (dk okX12_people 74 rfl) 1 rfl rfl (by decide) rfl ?_
    refine J_goto (tgt := 81) (dk okX12_people 75 rfl) (by decide) ?_
    exact J_sub [1, 0] rfl (kb (x5 + 1) μ8 (by subst eμ8 eμ7 eμ4; unfold bd_X12_people_81; first | (simp only [if_neg h1]; done) | (simp only [if_neg h1]; rfl) | rfl))
/-- VotingFloorModel.people()I -/
noncomputable def v_X12_people  (μ : Mm) : Int32 := (let μ1 : Mm := (upI μ 49 0 0); (let μ2 : Mm := (e_X12_begins 27 μ1); (let μ3 : Mm := (upI μ2 49 16 0); (let r7 : Int32 × Int32 × Mm := whl (fun s : Int32 × Int32 × Int32 × Mm => bd_X12_people_29  s.1 s.2.1 s.2.2.1 s.2.2.2) (fun s : Int32 × Int32 × Int32 × Mm => (0, 0, s.2.2.2)) FU ((v_X12_begins 27 μ1), 1, (if (v_X12_begins 27 μ1) ≤ 0 then 0 else 1 : Int32), μ3); (if 0 ≤ (v_X12_faultOf (r7.1) 27 (r7.2.1) (r7.2.2)) then (let r10 : Mm := whl (fun s : Int32 × Mm => bd_X12_people_81  s.1 s.2) (fun s : Int32 × Mm => s.2) FU (0, (r7.2.2)); (let μ13 : Mm := (upI r10 49 23 (if (r10.1 49 16) ≤ 0 then (r10.1 49 23) else 0 : Int32)); (let μ16 : Mm := (upI μ13 49 4 ((μ13.1 49 4) + (v_X12_flag (if (μ13.1 49 16) ≤ 0 then 0 else 1 : Int32)))); (μ16.1 49 16)))) else (v_X12_faultOf (r7.1) 27 (r7.2.1) (r7.2.2)))))))
noncomputable def e_X12_people  (μ : Mm) : Mm := (let μ1 : Mm := (upI μ 49 0 0); (let μ2 : Mm := (e_X12_begins 27 μ1); (let μ3 : Mm := (upI μ2 49 16 0); (let r7 : Int32 × Int32 × Mm := whl (fun s : Int32 × Int32 × Int32 × Mm => bd_X12_people_29  s.1 s.2.1 s.2.2.1 s.2.2.2) (fun s : Int32 × Int32 × Int32 × Mm => (0, 0, s.2.2.2)) FU ((v_X12_begins 27 μ1), 1, (if (v_X12_begins 27 μ1) ≤ 0 then 0 else 1 : Int32), μ3); (if 0 ≤ (v_X12_faultOf (r7.1) 27 (r7.2.1) (r7.2.2)) then (let r10 : Mm := whl (fun s : Int32 × Mm => bd_X12_people_81  s.1 s.2) (fun s : Int32 × Mm => s.2) FU (0, (r7.2.2)); (let μ13 : Mm := (upI r10 49 23 (if (r10.1 49 16) ≤ 0 then (r10.1 49 23) else 0 : Int32)); (let μ16 : Mm := (upI μ13 49 4 ((μ13.1 49 4) + (v_X12_flag (if (μ13.1 49 16) ≤ 0 then 0 else 1 : Int32)))); μ16))) else (r7.2.2))))))
def p_X12_people   (μ : Mm) : Prop := (∀ μ1 : Mm, μ1 = (upI μ 49 0 0) → (∀ μ2 : Mm, μ2 = (e_X12_begins 27 μ1) → (∀ μ3 : Mm, μ3 = (upI μ2 49 16 0) → (whP (fun s : Int32 × Int32 × Int32 × Mm => bd_X12_people_29  s.1 s.2.1 s.2.2.1 s.2.2.2) (fun s : Int32 × Int32 × Int32 × Mm => sd_X12_people_29   s.1 s.2.1 s.2.2.1 s.2.2.2) FU ((v_X12_begins 27 μ1), 1, (if (v_X12_begins 27 μ1) ≤ 0 then 0 else 1 : Int32), μ3)) ∧ (∀ r7 : Int32 × Int32 × Mm, r7 = whl (fun s : Int32 × Int32 × Int32 × Mm => bd_X12_people_29  s.1 s.2.1 s.2.2.1 s.2.2.2) (fun s : Int32 × Int32 × Int32 × Mm => (0, 0, s.2.2.2)) FU ((v_X12_begins 27 μ1), 1, (if (v_X12_begins 27 μ1) ≤ 0 then 0 else 1 : Int32), μ3) → (0 ≤ (v_X12_faultOf (r7.1) 27 (r7.2.1) (r7.2.2)) → whP (fun s : Int32 × Mm => bd_X12_people_81  s.1 s.2) (fun s : Int32 × Mm => sd_X12_people_81   s.1 s.2) FU (0, (r7.2.2)))))))
set_option maxRecDepth 20000 in
set_option maxHeartbeats 4000000 in
theorem con_X12_people {E : Ex} {Q : Option Value → Mm → Prop} {μ : Mm} (t : p_X12_people   μ) (k : Q (some (.int (v_X12_people  μ))) (e_X12_people  μ)) : Con E 8 mX12_people [rf E 49] μ Q := by
  refine Con_J (by decide +kernel) (Nat.le_of_ble_eq_true rfl) (fun G => ?_)
  unfold v_X12_people e_X12_people at k
  unfold p_X12_people at t
  refine J_sub (ls' := [(0, rf E 49)]) [0] rfl ?_
  refine J_aload_n (dk okX12_people 0 rfl) 0 rfl rfl ?_
  refine J_iconst (v := 0) (dk okX12_people 1 rfl) (by decide) ?_
  refine J_put (dk okX12_people 2 rfl) kpX12_3 ds_49 rfl rfl rfl ?_
  refine J_nm (fun μ1 eμ1 => ?_)
  have t := t μ1 eμ1
  refine J_aload_n (dk okX12_people 3 rfl) 0 rfl rfl ?_
  refine J_bipush (v := 27) (dk okX12_people 4 rfl) (by decide) ?_
  refine J_callVi (As := [.int 27]) (dk okX12_people 5 rfl) ds_49 rfl vkX12_begins lkX12_199 rfl rfl (Nat.le_of_ble_eq_true rfl) (by decide) (con_X12_begins  ⟨_, rfl, ?_⟩)
  refine J_nm (fun μ2 eμ2 => ?_)
  have t := t μ2 eμ2
  refine J_istore_n (ls' := [(1, _), (0, _)]) (dk okX12_people 6 rfl) rfl (by decide) rfl ?_
  refine J_aload_n (dk okX12_people 7 rfl) 1 rfl rfl ?_
  refine J_iconst (v := 0) (dk okX12_people 8 rfl) (by decide) ?_
  refine J_put (dk okX12_people 9 rfl) kpX12_187 ds_49 rfl rfl rfl ?_
  refine J_nm (fun μ3 eμ3 => ?_)
  have t := t μ3 eμ3
  refine J_iconst (v := 1) (dk okX12_people 10 rfl) (by decide) ?_
  refine J_istore_n (ls' := [(2, _), (1, _), (0, _)]) (dk okX12_people 11 rfl) rfl (by decide) rfl ?_
  refine J_iload_n (dk okX12_people 12 rfl) 1 rfl rfl ?_
  have K5 : J E G 8 mX12_people Q 28 [(0, rf E 49), (1, .int (v_X12_begins 27 μ1)), (2, .int 1)] [.int (if (v_X12_begins 27 μ1) ≤ 0 then 0 else 1 : Int32)] μ3 := by
    refine J_istore_n (ls' := [(3, _), (0, _), (1, _), (2, _)]) (dk okX12_people 17 rfl) rfl (by decide) rfl ?_
    obtain ⟨s6, t⟩ := t
    refine J_sub (ls' := [(0, _), (1, _), (2, _), (3, _)]) [1, 2, 3, 0] rfl ?_
    refine lw_X12_people_29  s6 (fun r7 er7 => ?_)
    have t := t r7 er7
    refine J_aload_n (dk okX12_people 34 rfl) 0 rfl rfl ?_
    refine J_iload_n (dk okX12_people 35 rfl) 1 rfl rfl ?_
    refine J_bipush (v := 27) (dk okX12_people 36 rfl) (by decide) ?_
    refine J_iload_n (dk okX12_people 37 rfl) 2 rfl rfl ?_
    refine J_callVi (As := [.int (r7.1), .int 27, .int (r7.2.1)]) (dk okX12_people 38 rfl) ds_49 rfl vkX12_faultOf lkX12_209 rfl rfl (Nat.le_of_ble_eq_true rfl) (by decide) (con_X12_faultOf  ⟨_, rfl, ?_⟩)
    refine J_istore (ls' := [(4, _), (0, _), (1, _), (2, _)]) (dk okX12_people 39 rfl) (by decide) rfl ?_
    refine J_iload (dk okX12_people 40 rfl) 0 rfl ?_
    refine J_if_ge (tgt := 78) (dk okX12_people 41 rfl) (by decide) (fun h8 => ?_) (fun h8 => ?_)
    · have t := t h8
      refine J_iconst (v := 0) (dk okX12_people 44 rfl) (by decide) ?_
      refine J_istore (ls' := [(5, _), (4, _), (0, _), (1, _), (2, _)]) (dk okX12_people 45 rfl) (by decide) rfl ?_
      have s9 := t
      refine J_sub (ls' := [(0, _), (5, _)]) [2, 0] rfl ?_
      refine lw_X12_people_81  s9 (fun r10 er10 => ?_)
      refine J_aload_n (dk okX12_people 76 rfl) 0 rfl rfl ?_
      refine J_aload_n (dk okX12_people 77 rfl) 0 rfl rfl ?_
      refine J_getI (dk okX12_people 78 rfl) kfX12_187 ds_49 rfl ?_
      have K12 : J E G 8 mX12_people Q 154 [(0, rf E 49)] [.int (if (r10.1 49 16) ≤ 0 then (r10.1 49 23) else 0 : Int32), rf E 49] r10 := by
        refine J_put (dk okX12_people 84 rfl) kpX12_213 ds_49 rfl rfl rfl ?_
        refine J_nm (fun μ13 eμ13 => ?_)
        refine J_aload_n (dk okX12_people 85 rfl) 0 rfl rfl ?_
        refine J_dup (dk okX12_people 86 rfl) rfl ?_
        refine J_getI (dk okX12_people 87 rfl) kfX12_216 ds_49 rfl ?_
        refine J_aload_n (dk okX12_people 88 rfl) 0 rfl rfl ?_
        refine J_getI (dk okX12_people 89 rfl) kfX12_187 ds_49 rfl ?_
        have K15 : J E G 8 mX12_people Q 174 [(0, rf E 49)] [.int (if (μ13.1 49 16) ≤ 0 then 0 else 1 : Int32), .int (μ13.1 49 4), rf E 49] μ13 := by
          refine J_callSi (As := [.int (if (μ13.1 49 16) ≤ 0 then 0 else 1 : Int32)]) (dk okX12_people 94 rfl) skX12_flag lkX12_137 rfl rfl (Nat.le_of_ble_eq_true rfl) (by decide) (con_X12_flag  ⟨_, rfl, ?_⟩)
          refine J_iadd (dk okX12_people 95 rfl) ?_
          refine J_put (dk okX12_people 96 rfl) kpX12_216 ds_49 rfl rfl rfl ?_
          refine J_nm (fun μ16 eμ16 => ?_)
          refine J_aload_n (dk okX12_people 97 rfl) 0 rfl rfl ?_
          refine J_getI (dk okX12_people 98 rfl) kfX12_187 ds_49 rfl ?_
          subst eμ16 eμ13 er10 er7 eμ3 eμ2 eμ1
          (try simp only [if_pos h8] at k ⊢)
          exact J_iret (dk okX12_people 99 rfl) rfl k
        refine J_if_le (tgt := 173) (dk okX12_people 90 rfl) (by decide) (fun h14 => ?_) (fun h14 => ?_)
        · refine J_iconst (v := 0) (dk okX12_people 93 rfl) (by decide) ?_
          refine J_sub (ls' := [(0, _)]) [0] rfl ?_
          (try simp only [if_pos h14] at K15 ⊢); exact K15
        · refine J_iconst (v := 1) (dk okX12_people 91 rfl) (by decide) ?_
          refine J_goto (tgt := 174) (dk okX12_people 92 rfl) (by decide) ?_
          refine J_sub (ls' := [(0, _)]) [0] rfl ?_
          (try simp only [if_neg h14] at K15 ⊢); exact K15
      refine J_if_le (tgt := 150) (dk okX12_people 79 rfl) (by decide) (fun h11 => ?_) (fun h11 => ?_)
      · refine J_aload_n (dk okX12_people 82 rfl) 0 rfl rfl ?_
        refine J_getI (dk okX12_people 83 rfl) kfX12_213 ds_49 rfl ?_
        refine J_sub (ls' := [(0, _)]) [0] rfl ?_
        (try simp only [if_pos h11] at K12 ⊢); exact K12
      · refine J_iconst (v := 0) (dk okX12_people 80 rfl) (by decide) ?_
        refine J_goto (tgt := 154) (dk okX12_people 81 rfl) (by decide) ?_
        refine J_sub (ls' := [(0, _)]) [0] rfl ?_
        (try simp only [if_neg h11] at K12 ⊢); exact K12
    · refine J_iload (dk okX12_people 42 rfl) 0 rfl ?_
      subst er7 eμ3 eμ2 eμ1
      (try simp only [if_neg h8] at k ⊢)
      exact J_iret (dk okX12_people 43 rfl) rfl k
  refine J_if_le (tgt := 27) (dk okX12_people 13 rfl) (by decide) (fun h4 => ?_) (fun h4 => ?_)
  · refine J_iconst (v := 0) (dk okX12_people 16 rfl) (by decide) ?_
    refine J_sub (ls' := [(0, _), (1, _), (2, _)]) [2, 1, 0] rfl ?_
    (try simp only [if_pos h4] at K5 ⊢); exact K5
  · refine J_iconst (v := 1) (dk okX12_people 14 rfl) (by decide) ?_
    refine J_goto (tgt := 28) (dk okX12_people 15 rfl) (by decide) ?_
    refine J_sub (ls' := [(0, _), (1, _), (2, _)]) [2, 1, 0] rfl ?_
    (try simp only [if_neg h4] at K5 ⊢); exact K5
noncomputable def bd_X12_spares_14  (x1 : Int32) (x2 : Int32) (x3 : Int32) (μ : Mm) : (Int32 × Int32 × Int32 × Mm) ⊕ (Int32 × Int32 × Mm) := (if (μ.1 49 3) ≤ x3 then .inr (x1, x2, μ) else (let μ12 : Mm := (if (v_X12_has (v_X12_here 52 μ) x3) = 0 then μ else ((e_X12_goesOn 53 (if 0 < ((((e_X12_stepsOff 53 x3 ((e_X12_copies  μ)))).1 53 (Int32.toNatClampNeg 23)) - (((e_X12_stepsOff 53 x3 ((e_X12_copies  μ)))).1 53 (Int32.toNatClampNeg 22))) then ((((e_X12_stepsOff 53 x3 ((e_X12_copies  μ)))).1 53 (Int32.toNatClampNeg 23)) - (((e_X12_stepsOff 53 x3 ((e_X12_copies  μ)))).1 53 (Int32.toNatClampNeg 22))) else 0) ((e_X12_stepsOff 53 x3 ((e_X12_copies  μ)))))) : Mm); .inl ((if (v_X12_has (v_X12_here 52 μ) x3) = 0 then x1 else (if (v_X12_moment 53 ((e_X12_goesOn 53 (if 0 < ((((e_X12_stepsOff 53 x3 ((e_X12_copies  μ)))).1 53 (Int32.toNatClampNeg 23)) - (((e_X12_stepsOff 53 x3 ((e_X12_copies  μ)))).1 53 (Int32.toNatClampNeg 22))) then ((((e_X12_stepsOff 53 x3 ((e_X12_copies  μ)))).1 53 (Int32.toNatClampNeg 23)) - (((e_X12_stepsOff 53 x3 ((e_X12_copies  μ)))).1 53 (Int32.toNatClampNeg 22))) else 0) ((e_X12_stepsOff 53 x3 ((e_X12_copies  μ))))))) ≤ x2 then x1 else x3 : Int32) : Int32), (if (v_X12_has (v_X12_here 52 μ) x3) = 0 then x2 else (if x2 < (v_X12_moment 53 ((e_X12_goesOn 53 (if 0 < ((((e_X12_stepsOff 53 x3 ((e_X12_copies  μ)))).1 53 (Int32.toNatClampNeg 23)) - (((e_X12_stepsOff 53 x3 ((e_X12_copies  μ)))).1 53 (Int32.toNatClampNeg 22))) then ((((e_X12_stepsOff 53 x3 ((e_X12_copies  μ)))).1 53 (Int32.toNatClampNeg 23)) - (((e_X12_stepsOff 53 x3 ((e_X12_copies  μ)))).1 53 (Int32.toNatClampNeg 22))) else 0) ((e_X12_stepsOff 53 x3 ((e_X12_copies  μ))))))) then (v_X12_moment 53 ((e_X12_goesOn 53 (if 0 < ((((e_X12_stepsOff 53 x3 ((e_X12_copies  μ)))).1 53 (Int32.toNatClampNeg 23)) - (((e_X12_stepsOff 53 x3 ((e_X12_copies  μ)))).1 53 (Int32.toNatClampNeg 22))) then ((((e_X12_stepsOff 53 x3 ((e_X12_copies  μ)))).1 53 (Int32.toNatClampNeg 23)) - (((e_X12_stepsOff 53 x3 ((e_X12_copies  μ)))).1 53 (Int32.toNatClampNeg 22))) else 0) ((e_X12_stepsOff 53 x3 ((e_X12_copies  μ))))))) else x2) : Int32), (x3 + 1), μ12)))
def sd_X12_spares_14   (x1 : Int32) (x2 : Int32) (x3 : Int32) (μ : Mm) : Prop := (¬ ((μ.1 49 3) ≤ x3) → (¬ ((v_X12_has (v_X12_here 52 μ) x3) = 0) → (p_X12_copies μ) ∧ (∀ μ4 : Mm, μ4 = (e_X12_copies  μ) → (∀ μ5 : Mm, μ5 = (e_X12_stepsOff 53 x3 μ4) → (p_X12_goesOn 53 (if 0 < ((μ5.1 53 (Int32.toNatClampNeg 23)) - (μ5.1 53 (Int32.toNatClampNeg 22))) then ((μ5.1 53 (Int32.toNatClampNeg 23)) - (μ5.1 53 (Int32.toNatClampNeg 22))) else 0) μ5) ∧ (∀ μ7 : Mm, μ7 = (e_X12_goesOn 53 (if 0 < ((μ5.1 53 (Int32.toNatClampNeg 23)) - (μ5.1 53 (Int32.toNatClampNeg 22))) then ((μ5.1 53 (Int32.toNatClampNeg 23)) - (μ5.1 53 (Int32.toNatClampNeg 22))) else 0) μ5) → (p_X12_moment 53 μ7) ∧ p_X12_moment 53 μ7)))))
set_option maxRecDepth 20000 in
set_option maxHeartbeats 4000000 in
theorem lw_X12_spares_14 {E : Ex} {G : Gx} {Q : Option Value → Mm → Prop} {x1 : Int32} {x2 : Int32} {x3 : Int32} {μ : Mm}  (p : whP (fun s : Int32 × Int32 × Int32 × Mm => bd_X12_spares_14  s.1 s.2.1 s.2.2.1 s.2.2.2) (fun s : Int32 × Int32 × Int32 × Mm => sd_X12_spares_14   s.1 s.2.1 s.2.2.1 s.2.2.2) FU (x1, x2, x3, μ)) (k : ∀ r : Int32 × Int32 × Mm, r = whl (fun s : Int32 × Int32 × Int32 × Mm => bd_X12_spares_14  s.1 s.2.1 s.2.2.1 s.2.2.2) (fun s : Int32 × Int32 × Int32 × Mm => (0, 0, s.2.2.2)) FU (x1, x2, x3, μ) → J E G 8 mX12_spares Q 116 [(0, rf E 49), (1, .int (r.1)), (2, .int (r.2.1))] [] (r.2.2)) : J E G 8 mX12_spares Q 14 [(0, rf E 49), (1, .int x1), (2, .int x2), (3, .int x3)] [] μ := by
  refine J_whl (f := (fun s : Int32 × Int32 × Int32 × Mm => bd_X12_spares_14  s.1 s.2.1 s.2.2.1 s.2.2.2)) (dd := (fun s : Int32 × Int32 × Int32 × Mm => (0, 0, s.2.2.2))) (sd := (fun s : Int32 × Int32 × Int32 × Mm => sd_X12_spares_14   s.1 s.2.1 s.2.2.1 s.2.2.2)) (P := fun s : Int32 × Int32 × Int32 × Mm => J E G 8 mX12_spares Q 14 [(0, rf E 49), (1, .int (s.1)), (2, .int (s.2.1)), (3, .int (s.2.2.1))] [] (s.2.2.2)) (R := fun r : Int32 × Int32 × Mm => J E G 8 mX12_spares Q 116 [(0, rf E 49), (1, .int (r.1)), (2, .int (r.2.1))] [] (r.2.2)) ?_ FU (x1, x2, x3, μ) p (k _ rfl)
  clear p k
  rintro ⟨x1, x2, x3, μ⟩ t k1 k2
  dsimp only [sd_X12_spares_14] at t
  have kb : ∀ (y1 : Int32) (y2 : Int32) (y3 : Int32) (μ9 : Mm), bd_X12_spares_14  x1 x2 x3 μ = .inl (y1, y2, y3, μ9) → J E G 8 mX12_spares Q 14 [(0, rf E 49), (1, .int y1), (2, .int y2), (3, .int y3)] [] μ9 := fun y1 y2 y3 μ9 h => k1 (y1, y2, y3, μ9) h
  have kx : ∀ (y1 : Int32) (y2 : Int32) (μ9 : Mm), bd_X12_spares_14  x1 x2 x3 μ = .inr (y1, y2, μ9) → J E G 8 mX12_spares Q 116 [(0, rf E 49), (1, .int y1), (2, .int y2)] [] μ9 := fun y1 y2 μ9 h => k2 (y1, y2, μ9) h
  clear k1 k2
  refine J_iload_n (dk okX12_spares 9 rfl) 3 rfl rfl ?_
  refine J_aload_n (dk okX12_spares 10 rfl) 0 rfl rfl ?_
  refine J_getI (dk okX12_spares 11 rfl) kfX12_111 ds_49 rfl ?_
  refine J_icmp_ge (tgt := 116) (dk okX12_spares 12 rfl) (by decide) (fun h1 => ?_) (fun h1 => ?_)
  · exact J_sub [0, 1, 2] rfl (kx x1 x2 μ (by unfold bd_X12_spares_14; first | (simp only [if_pos h1]; done) | (simp only [if_pos h1]; rfl) | rfl))
  · have t := t h1
    refine J_aload_n (dk okX12_spares 13 rfl) 0 rfl rfl ?_
    refine J_aload_n (dk okX12_spares 14 rfl) 0 rfl rfl ?_
    refine J_getR (dk okX12_spares 15 rfl) kfX12_32 ds_49 rfl ?_
    refine J_callVi (As := [rf E 52]) (dk okX12_spares 16 rfl) ds_49 rfl vkX12_here lkX12_122 rfl rfl (Nat.le_of_ble_eq_true rfl) (by decide) (con_X12_here ds_52 ⟨_, rfl, ?_⟩)
    refine J_iload_n (dk okX12_spares 17 rfl) 3 rfl rfl ?_
    refine J_callSi (As := [.int (v_X12_here 52 μ), .int x3]) (dk okX12_spares 18 rfl) skX12_has lkX12_126 rfl rfl (Nat.le_of_ble_eq_true rfl) (by decide) (con_X12_has  ⟨_, rfl, ?_⟩)
    have K13 : J E G 8 mX12_spares Q 110 [(0, rf E 49), (1, .int (if (v_X12_has (v_X12_here 52 μ) x3) = 0 then x1 else (if (v_X12_moment 53 ((e_X12_goesOn 53 (if 0 < ((((e_X12_stepsOff 53 x3 ((e_X12_copies  μ)))).1 53 (Int32.toNatClampNeg 23)) - (((e_X12_stepsOff 53 x3 ((e_X12_copies  μ)))).1 53 (Int32.toNatClampNeg 22))) then ((((e_X12_stepsOff 53 x3 ((e_X12_copies  μ)))).1 53 (Int32.toNatClampNeg 23)) - (((e_X12_stepsOff 53 x3 ((e_X12_copies  μ)))).1 53 (Int32.toNatClampNeg 22))) else 0) ((e_X12_stepsOff 53 x3 ((e_X12_copies  μ))))))) ≤ x2 then x1 else x3 : Int32) : Int32)), (2, .int (if (v_X12_has (v_X12_here 52 μ) x3) = 0 then x2 else (if x2 < (v_X12_moment 53 ((e_X12_goesOn 53 (if 0 < ((((e_X12_stepsOff 53 x3 ((e_X12_copies  μ)))).1 53 (Int32.toNatClampNeg 23)) - (((e_X12_stepsOff 53 x3 ((e_X12_copies  μ)))).1 53 (Int32.toNatClampNeg 22))) then ((((e_X12_stepsOff 53 x3 ((e_X12_copies  μ)))).1 53 (Int32.toNatClampNeg 23)) - (((e_X12_stepsOff 53 x3 ((e_X12_copies  μ)))).1 53 (Int32.toNatClampNeg 22))) else 0) ((e_X12_stepsOff 53 x3 ((e_X12_copies  μ))))))) then (v_X12_moment 53 ((e_X12_goesOn 53 (if 0 < ((((e_X12_stepsOff 53 x3 ((e_X12_copies  μ)))).1 53 (Int32.toNatClampNeg 23)) - (((e_X12_stepsOff 53 x3 ((e_X12_copies  μ)))).1 53 (Int32.toNatClampNeg 22))) then ((((e_X12_stepsOff 53 x3 ((e_X12_copies  μ)))).1 53 (Int32.toNatClampNeg 23)) - (((e_X12_stepsOff 53 x3 ((e_X12_copies  μ)))).1 53 (Int32.toNatClampNeg 22))) else 0) ((e_X12_stepsOff 53 x3 ((e_X12_copies  μ))))))) else x2) : Int32)), (3, .int x3)] [] (if (v_X12_has (v_X12_here 52 μ) x3) = 0 then μ else ((e_X12_goesOn 53 (if 0 < ((((e_X12_stepsOff 53 x3 ((e_X12_copies  μ)))).1 53 (Int32.toNatClampNeg 23)) - (((e_X12_stepsOff 53 x3 ((e_X12_copies  μ)))).1 53 (Int32.toNatClampNeg 22))) then ((((e_X12_stepsOff 53 x3 ((e_X12_copies  μ)))).1 53 (Int32.toNatClampNeg 23)) - (((e_X12_stepsOff 53 x3 ((e_X12_copies  μ)))).1 53 (Int32.toNatClampNeg 22))) else 0) ((e_X12_stepsOff 53 x3 ((e_X12_copies  μ)))))) : Mm) := by
      refine J_nm (fun μ12 eμ12 => ?_)
      refine J_iinc (v := (x3 + 1)) (ls' := [(3, _), (0, _), (1, _), (2, _)]) (dk okX12_spares 61 rfl) 3 rfl rfl (by decide) rfl ?_
      refine J_goto (tgt := 14) (dk okX12_spares 62 rfl) (by decide) ?_
      exact J_sub [1, 2, 3, 0] rfl (kb (if (v_X12_has (v_X12_here 52 μ) x3) = 0 then x1 else (if (v_X12_moment 53 ((e_X12_goesOn 53 (if 0 < ((((e_X12_stepsOff 53 x3 ((e_X12_copies  μ)))).1 53 (Int32.toNatClampNeg 23)) - (((e_X12_stepsOff 53 x3 ((e_X12_copies  μ)))).1 53 (Int32.toNatClampNeg 22))) then ((((e_X12_stepsOff 53 x3 ((e_X12_copies  μ)))).1 53 (Int32.toNatClampNeg 23)) - (((e_X12_stepsOff 53 x3 ((e_X12_copies  μ)))).1 53 (Int32.toNatClampNeg 22))) else 0) ((e_X12_stepsOff 53 x3 ((e_X12_copies  μ))))))) ≤ x2 then x1 else x3 : Int32) : Int32) (if (v_X12_has (v_X12_here 52 μ) x3) = 0 then x2 else (if x2 < (v_X12_moment 53 ((e_X12_goesOn 53 (if 0 < ((((e_X12_stepsOff 53 x3 ((e_X12_copies  μ)))).1 53 (Int32.toNatClampNeg 23)) - (((e_X12_stepsOff 53 x3 ((e_X12_copies  μ)))).1 53 (Int32.toNatClampNeg 22))) then ((((e_X12_stepsOff 53 x3 ((e_X12_copies  μ)))).1 53 (Int32.toNatClampNeg 23)) - (((e_X12_stepsOff 53 x3 ((e_X12_copies  μ)))).1 53 (Int32.toNatClampNeg 22))) else 0) ((e_X12_stepsOff 53 x3 ((e_X12_copies  μ))))))) then (v_X12_moment 53 ((e_X12_goesOn 53 (if 0 < ((((e_X12_stepsOff 53 x3 ((e_X12_copies  μ)))).1 53 (Int32.toNatClampNeg 23)) - (((e_X12_stepsOff 53 x3 ((e_X12_copies  μ)))).1 53 (Int32.toNatClampNeg 22))) then ((((e_X12_stepsOff 53 x3 ((e_X12_copies  μ)))).1 53 (Int32.toNatClampNeg 23)) - (((e_X12_stepsOff 53 x3 ((e_X12_copies  μ)))).1 53 (Int32.toNatClampNeg 22))) else 0) ((e_X12_stepsOff 53 x3 ((e_X12_copies  μ))))))) else x2) : Int32) (x3 + 1) μ12 (by subst eμ12; unfold bd_X12_spares_14; first | (simp only [if_neg h1]; done) | (simp only [if_neg h1]; rfl) | rfl))
    refine J_if_eq (tgt := 110) (dk okX12_spares 19 rfl) (by decide) (fun h2 => ?_) (fun h2 => ?_)
    · refine J_sub (ls' := [(0, _), (1, _), (2, _), (3, _)]) [0, 1, 2, 3] rfl ?_
      (try simp only [if_pos h2] at K13 ⊢); exact K13
    · have t := t h2
      refine J_aload_n (dk okX12_spares 20 rfl) 0 rfl rfl ?_
      obtain ⟨s3, t⟩ := t
      refine J_callVv (As := []) (dk okX12_spares 21 rfl) ds_49 rfl vkX12_copies lkX12_346 rfl rfl (Nat.le_of_ble_eq_true rfl) (by decide) (con_X12_copies s3 ⟨rfl, ?_⟩)
      refine J_nm (fun μ4 eμ4 => ?_)
      have t := t μ4 eμ4
      refine J_aload_n (dk okX12_spares 22 rfl) 0 rfl rfl ?_
      refine J_aload_n (dk okX12_spares 23 rfl) 0 rfl rfl ?_
      refine J_getR (dk okX12_spares 24 rfl) kfX12_35 ds_49 rfl ?_
      refine J_iload_n (dk okX12_spares 25 rfl) 3 rfl rfl ?_
      refine J_callVi (As := [rf E 53, .int x3]) (dk okX12_spares 26 rfl) ds_49 rfl vkX12_stepsOff lkX12_324 rfl rfl (Nat.le_of_ble_eq_true rfl) (by decide) (con_X12_stepsOff ds_53 ⟨_, rfl, ?_⟩)
      refine J_nm (fun μ5 eμ5 => ?_)
      have t := t μ5 eμ5
      refine J_pop (dk okX12_spares 27 rfl) rfl ?_
      refine J_aload_n (dk okX12_spares 28 rfl) 0 rfl rfl ?_
      refine J_aload_n (dk okX12_spares 29 rfl) 0 rfl rfl ?_
      refine J_getR (dk okX12_spares 30 rfl) kfX12_35 ds_49 rfl ?_
      refine J_iconst (v := 0) (dk okX12_spares 31 rfl) (by decide) ?_
      refine J_aload_n (dk okX12_spares 32 rfl) 0 rfl rfl ?_
      refine J_getR (dk okX12_spares 33 rfl) kfX12_35 ds_49 rfl ?_
      refine J_bipush (v := 23) (dk okX12_spares 34 rfl) (by decide) ?_
      refine J_iald (dk okX12_spares 35 rfl) ds_53 (by unfold vp_in; decide) ?_
      refine J_aload_n (dk okX12_spares 36 rfl) 0 rfl rfl ?_
      refine J_getR (dk okX12_spares 37 rfl) kfX12_35 ds_49 rfl ?_
      refine J_bipush (v := 22) (dk okX12_spares 38 rfl) (by decide) ?_
      refine J_iald (dk okX12_spares 39 rfl) ds_53 (by unfold vp_in; decide) ?_
      refine J_isub (dk okX12_spares 40 rfl) ?_
      refine J_mmax (dk okX12_spares 41 rfl) lkX12_284 mk_max_s mk_Math mk_max_c (by decide) (Nat.le_of_ble_eq_true rfl) ?_
      obtain ⟨s6, t⟩ := t
      refine J_callVi (As := [rf E 53, .int (if 0 < ((μ5.1 53 (Int32.toNatClampNeg 23)) - (μ5.1 53 (Int32.toNatClampNeg 22))) then ((μ5.1 53 (Int32.toNatClampNeg 23)) - (μ5.1 53 (Int32.toNatClampNeg 22))) else 0)]) (dk okX12_spares 42 rfl) ds_49 rfl vkX12_goesOn lkX12_309 rfl rfl (Nat.le_of_ble_eq_true rfl) (by decide) (con_X12_goesOn ds_53 s6 ⟨_, rfl, ?_⟩)
      refine J_nm (fun μ7 eμ7 => ?_)
      have t := t μ7 eμ7
      refine J_pop (dk okX12_spares 43 rfl) rfl ?_
      refine J_aload_n (dk okX12_spares 44 rfl) 0 rfl rfl ?_
      refine J_aload_n (dk okX12_spares 45 rfl) 0 rfl rfl ?_
      refine J_getR (dk okX12_spares 46 rfl) kfX12_35 ds_49 rfl ?_
      obtain ⟨s8, t⟩ := t
      refine J_callVi (As := [rf E 53]) (dk okX12_spares 47 rfl) ds_49 rfl vkX12_moment lkX12_275 rfl rfl (Nat.le_of_ble_eq_true rfl) (by decide) (con_X12_moment ds_53 s8 ⟨_, rfl, ?_⟩)
      refine J_iload_n (dk okX12_spares 48 rfl) 2 rfl rfl ?_
      have K10 : J E G 8 mX12_spares Q 96 [(0, rf E 49), (2, .int x2), (3, .int x3)] [.int (if (v_X12_moment 53 μ7) ≤ x2 then x1 else x3 : Int32)] μ7 := by
        refine J_istore_n (ls' := [(1, _), (0, _), (2, _), (3, _)]) (dk okX12_spares 53 rfl) rfl (by decide) rfl ?_
        refine J_iload_n (dk okX12_spares 54 rfl) 2 rfl rfl ?_
        refine J_aload_n (dk okX12_spares 55 rfl) 1 rfl rfl ?_
        refine J_aload_n (dk okX12_spares 56 rfl) 1 rfl rfl ?_
        refine J_getR (dk okX12_spares 57 rfl) kfX12_35 ds_49 rfl ?_
        have s11 := t
        refine J_callVi (As := [rf E 53]) (dk okX12_spares 58 rfl) ds_49 rfl vkX12_moment lkX12_275 rfl rfl (Nat.le_of_ble_eq_true rfl) (by decide) (con_X12_moment ds_53 s11 ⟨_, rfl, ?_⟩)
        refine J_mmax (dk okX12_spares 59 rfl) lkX12_284 mk_max_s mk_Math mk_max_c (by decide) (Nat.le_of_ble_eq_true rfl) ?_
        refine J_istore_n (ls' := [(2, _), (1, _), (0, _), (3, _)]) (dk okX12_spares 60 rfl) rfl (by decide) rfl ?_
        subst eμ7 eμ5 eμ4
        refine J_sub (ls' := [(0, _), (1, _), (2, _), (3, _)]) [2, 1, 0, 3] rfl ?_
        (try simp only [if_neg h2] at K13 ⊢); exact K13
      refine J_icmp_le (tgt := 95) (dk okX12_spares 49 rfl) (by decide) (fun h9 => ?_) (fun h9 => ?_)
      · refine J_iload_n (dk okX12_spares 52 rfl) 1 rfl rfl ?_
        refine J_sub (ls' := [(0, _), (2, _), (3, _)]) [0, 2, 3] rfl ?_
        (try simp only [if_pos h9] at K10 ⊢); exact K10
      · refine J_iload_n (dk okX12_spares 50 rfl) 3 rfl rfl ?_
        refine J_goto (tgt := 96) (dk okX12_spares 51 rfl) (by decide) ?_
        refine J_sub (ls' := [(0, _), (2, _), (3, _)]) [0, 2, 3] rfl ?_
        (try simp only [if_neg h9] at K10 ⊢); exact K10
/-- VotingFloorModel.spares()I -/
noncomputable def v_X12_spares  (μ : Mm) : Int32 := (let μ1 : Mm := (upI μ 49 0 0); (let r3 : Int32 × Int32 × Mm := whl (fun s : Int32 × Int32 × Int32 × Mm => bd_X12_spares_14  s.1 s.2.1 s.2.2.1 s.2.2.2) (fun s : Int32 × Int32 × Int32 × Mm => (0, 0, s.2.2.2)) FU ((-2), (-1000000), 0, μ1); (r3.1)))
noncomputable def e_X12_spares  (μ : Mm) : Mm := (let μ1 : Mm := (upI μ 49 0 0); (let r3 : Int32 × Int32 × Mm := whl (fun s : Int32 × Int32 × Int32 × Mm => bd_X12_spares_14  s.1 s.2.1 s.2.2.1 s.2.2.2) (fun s : Int32 × Int32 × Int32 × Mm => (0, 0, s.2.2.2)) FU ((-2), (-1000000), 0, μ1); (let μ13 : Mm := (if (r3.1) < 0 then (r3.2.2) else ((e_X12_enters (Int32.toInt64 (2000 + (v_X12_moment 53 ((e_X12_enters (Int32.toInt64 (2000 + (r3.2.1))) ((upI ((e_X12_goesToNoon  (r3.2.2))) 49 1 0))))))) ((e_X12_enters (Int32.toInt64 (2000 + (r3.2.1))) ((upI ((e_X12_goesToNoon  (r3.2.2))) 49 1 0)))))) : Mm); μ13)))
def p_X12_spares   (μ : Mm) : Prop := (∀ μ1 : Mm, μ1 = (upI μ 49 0 0) → (whP (fun s : Int32 × Int32 × Int32 × Mm => bd_X12_spares_14  s.1 s.2.1 s.2.2.1 s.2.2.2) (fun s : Int32 × Int32 × Int32 × Mm => sd_X12_spares_14   s.1 s.2.1 s.2.2.1 s.2.2.2) FU ((-2), (-1000000), 0, μ1)) ∧ (∀ r3 : Int32 × Int32 × Mm, r3 = whl (fun s : Int32 × Int32 × Int32 × Mm => bd_X12_spares_14  s.1 s.2.1 s.2.2.1 s.2.2.2) (fun s : Int32 × Int32 × Int32 × Mm => (0, 0, s.2.2.2)) FU ((-2), (-1000000), 0, μ1) → (¬ ((r3.1) < 0) → (p_X12_goesToNoon (r3.2.2)) ∧ (∀ μ6 : Mm, μ6 = (e_X12_goesToNoon  (r3.2.2)) → (∀ μ7 : Mm, μ7 = (upI μ6 49 1 0) → (p_X12_enters (Int32.toInt64 (2000 + (r3.2.1))) μ7) ∧ (∀ μ9 : Mm, μ9 = (e_X12_enters (Int32.toInt64 (2000 + (r3.2.1))) μ7) → (p_X12_moment 53 μ9) ∧ p_X12_enters (Int32.toInt64 (2000 + (v_X12_moment 53 μ9))) μ9))))))
set_option maxRecDepth 20000 in
set_option maxHeartbeats 4000000 in
theorem con_X12_spares {E : Ex} {Q : Option Value → Mm → Prop} {μ : Mm} (t : p_X12_spares   μ) (k : Q (some (.int (v_X12_spares  μ))) (e_X12_spares  μ)) : Con E 8 mX12_spares [rf E 49] μ Q := by
  refine Con_J (by decide +kernel) (Nat.le_of_ble_eq_true rfl) (fun G => ?_)
  unfold v_X12_spares e_X12_spares at k
  unfold p_X12_spares at t
  refine J_sub (ls' := [(0, rf E 49)]) [0] rfl ?_
  refine J_aload_n (dk okX12_spares 0 rfl) 0 rfl rfl ?_
  refine J_iconst (v := 0) (dk okX12_spares 1 rfl) (by decide) ?_
  refine J_put (dk okX12_spares 2 rfl) kpX12_3 ds_49 rfl rfl rfl ?_
  refine J_nm (fun μ1 eμ1 => ?_)
  have t := t μ1 eμ1
  refine J_bipush (v := (-2)) (dk okX12_spares 3 rfl) (by decide) ?_
  refine J_istore_n (ls' := [(1, _), (0, _)]) (dk okX12_spares 4 rfl) rfl (by decide) rfl ?_
  refine J_ldc_w (v := (-1000000)) (dk okX12_spares 5 rfl) kcX12_355 ?_
  refine J_istore_n (ls' := [(2, _), (1, _), (0, _)]) (dk okX12_spares 6 rfl) rfl (by decide) rfl ?_
  refine J_iconst (v := 0) (dk okX12_spares 7 rfl) (by decide) ?_
  refine J_istore_n (ls' := [(3, _), (2, _), (1, _), (0, _)]) (dk okX12_spares 8 rfl) rfl (by decide) rfl ?_
  obtain ⟨s2, t⟩ := t
  refine J_sub (ls' := [(0, _), (1, _), (2, _), (3, _)]) [3, 2, 1, 0] rfl ?_
  refine lw_X12_spares_14  s2 (fun r3 er3 => ?_)
  have t := t r3 er3
  refine J_iload_n (dk okX12_spares 63 rfl) 1 rfl rfl ?_
  have K14 : J E G 8 mX12_spares Q 156 [(1, .int (r3.1))] [] (if (r3.1) < 0 then (r3.2.2) else ((e_X12_enters (Int32.toInt64 (2000 + (v_X12_moment 53 ((e_X12_enters (Int32.toInt64 (2000 + (r3.2.1))) ((upI ((e_X12_goesToNoon  (r3.2.2))) 49 1 0))))))) ((e_X12_enters (Int32.toInt64 (2000 + (r3.2.1))) ((upI ((e_X12_goesToNoon  (r3.2.2))) 49 1 0)))))) : Mm) := by
    refine J_nm (fun μ13 eμ13 => ?_)
    refine J_iload_n (dk okX12_spares 85 rfl) 0 rfl rfl ?_
    subst eμ13 er3 eμ1
    exact J_iret (dk okX12_spares 86 rfl) rfl k
  refine J_if_lt (tgt := 156) (dk okX12_spares 64 rfl) (by decide) (fun h4 => ?_) (fun h4 => ?_)
  · refine J_sub (ls' := [(1, _)]) [1] rfl ?_
    (try simp only [if_pos h4] at K14 ⊢); exact K14
  · have t := t h4
    refine J_aload_n (dk okX12_spares 65 rfl) 0 rfl rfl ?_
    obtain ⟨s5, t⟩ := t
    refine J_callVv (As := []) (dk okX12_spares 66 rfl) ds_49 rfl vkX12_goesToNoon lkX12_349 rfl rfl (Nat.le_of_ble_eq_true rfl) (by decide) (con_X12_goesToNoon s5 ⟨rfl, ?_⟩)
    refine J_nm (fun μ6 eμ6 => ?_)
    have t := t μ6 eμ6
    refine J_aload_n (dk okX12_spares 67 rfl) 0 rfl rfl ?_
    refine J_iconst (v := 0) (dk okX12_spares 68 rfl) (by decide) ?_
    refine J_put (dk okX12_spares 69 rfl) kpX12_15 ds_49 rfl rfl rfl ?_
    refine J_nm (fun μ7 eμ7 => ?_)
    have t := t μ7 eμ7
    refine J_aload_n (dk okX12_spares 70 rfl) 0 rfl rfl ?_
    refine J_sipush (v := 2000) (dk okX12_spares 71 rfl) (by decide) ?_
    refine J_iload_n (dk okX12_spares 72 rfl) 2 rfl rfl ?_
    refine J_iadd (dk okX12_spares 73 rfl) ?_
    refine J_i2l (dk okX12_spares 74 rfl) ?_
    obtain ⟨s8, t⟩ := t
    refine J_callVv (As := [.long (Int32.toInt64 (2000 + (r3.2.1)))]) (dk okX12_spares 75 rfl) ds_49 rfl vkX12_enters lkX12_18 rfl rfl (Nat.le_of_ble_eq_true rfl) (by decide) (con_X12_enters s8 ⟨rfl, ?_⟩)
    refine J_nm (fun μ9 eμ9 => ?_)
    have t := t μ9 eμ9
    refine J_aload_n (dk okX12_spares 76 rfl) 0 rfl rfl ?_
    refine J_sipush (v := 2000) (dk okX12_spares 77 rfl) (by decide) ?_
    refine J_aload_n (dk okX12_spares 78 rfl) 0 rfl rfl ?_
    refine J_aload_n (dk okX12_spares 79 rfl) 0 rfl rfl ?_
    refine J_getR (dk okX12_spares 80 rfl) kfX12_35 ds_49 rfl ?_
    obtain ⟨s10, t⟩ := t
    refine J_callVi (As := [rf E 53]) (dk okX12_spares 81 rfl) ds_49 rfl vkX12_moment lkX12_275 rfl rfl (Nat.le_of_ble_eq_true rfl) (by decide) (con_X12_moment ds_53 s10 ⟨_, rfl, ?_⟩)
    refine J_iadd (dk okX12_spares 82 rfl) ?_
    refine J_i2l (dk okX12_spares 83 rfl) ?_
    have s11 := t
    refine J_callVv (As := [.long (Int32.toInt64 (2000 + (v_X12_moment 53 μ9)))]) (dk okX12_spares 84 rfl) ds_49 rfl vkX12_enters lkX12_18 rfl rfl (Nat.le_of_ble_eq_true rfl) (by decide) (con_X12_enters s11 ⟨rfl, ?_⟩)
    refine J_nm (fun μ12 eμ12 => ?_)
    subst eμ12 eμ9 eμ7 eμ6
    refine J_sub (ls' := [(1, _)]) [1] rfl ?_
    (try simp only [if_neg h4] at K14 ⊢); exact K14

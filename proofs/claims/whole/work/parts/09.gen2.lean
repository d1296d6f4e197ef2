noncomputable def bd_X11_crossings_32  (x1 : Int32) (x2 : Int32) (x3 : Int32) (x4 : Int32) (μ : Mm) : (Int32 × Int32 × Int32 × Int32 × Mm) ⊕ (Int32 × Int32 × Int32 × Mm) := (if 9 < x4 then .inr (x1, x2, x3, μ) else (let μ13 : Mm := (if (v_X11_isBest x3 x4 x1 μ) = 0 then μ else (if (v_X11_isBest x4 x3 x1 μ) = 0 then μ else ((if x2 = 0 then ((e_X10_add (Int32.toInt64 x4) ((e_X10_add (Int32.toInt64 x3) μ)))) else μ : Mm)) : Mm) : Mm); .inl (x1, (if (v_X11_isBest x3 x4 x1 μ) = 0 then x2 else (if (v_X11_isBest x4 x3 x1 μ) = 0 then x2 else (x2 + 1) : Int32) : Int32), x3, (x4 + 1), μ13)))
def sd_X11_crossings_32   (x1 : Int32) (x2 : Int32) (x3 : Int32) (x4 : Int32) (μ : Mm) : Prop := (¬ (9 < x4) → (p_X11_isBest x3 x4 x1 μ) ∧ (¬ ((v_X11_isBest x3 x4 x1 μ) = 0) → (p_X11_isBest x4 x3 x1 μ) ∧ (¬ ((v_X11_isBest x4 x3 x1 μ) = 0) → (x2 = 0 → (p_X10_add (Int32.toInt64 x3) μ) ∧ (∀ μ8 : Mm, μ8 = (e_X10_add (Int32.toInt64 x3) μ) → p_X10_add (Int32.toInt64 x4) μ8)))))
set_option maxRecDepth 20000 in
set_option maxHeartbeats 4000000 in
theorem lw_X11_crossings_32 {E : Ex} {G : Gx} {Q : Option Value → Mm → Prop} {x1 : Int32} {x2 : Int32} {x3 : Int32} {x4 : Int32} {μ : Mm}  (p : whP (fun s : Int32 × Int32 × Int32 × Int32 × Mm => bd_X11_crossings_32  s.1 s.2.1 s.2.2.1 s.2.2.2.1 s.2.2.2.2) (fun s : Int32 × Int32 × Int32 × Int32 × Mm => sd_X11_crossings_32   s.1 s.2.1 s.2.2.1 s.2.2.2.1 s.2.2.2.2) FU (x1, x2, x3, x4, μ)) (k : ∀ r : Int32 × Int32 × Int32 × Mm, r = whl (fun s : Int32 × Int32 × Int32 × Int32 × Mm => bd_X11_crossings_32  s.1 s.2.1 s.2.2.1 s.2.2.2.1 s.2.2.2.2) (fun s : Int32 × Int32 × Int32 × Int32 × Mm => (0, 0, 0, s.2.2.2.2)) FU (x1, x2, x3, x4, μ) → J E G 3 mX11_crossings Q 91 [(0, rf E 0), (1, .int (r.1)), (2, .int (r.2.1)), (3, .int (r.2.2.1))] [] (r.2.2.2)) : J E G 3 mX11_crossings Q 32 [(0, rf E 0), (1, .int x1), (2, .int x2), (3, .int x3), (4, .int x4)] [] μ := by
  refine J_whl (f := (fun s : Int32 × Int32 × Int32 × Int32 × Mm => bd_X11_crossings_32  s.1 s.2.1 s.2.2.1 s.2.2.2.1 s.2.2.2.2)) (dd := (fun s : Int32 × Int32 × Int32 × Int32 × Mm => (0, 0, 0, s.2.2.2.2))) (sd := (fun s : Int32 × Int32 × Int32 × Int32 × Mm => sd_X11_crossings_32   s.1 s.2.1 s.2.2.1 s.2.2.2.1 s.2.2.2.2)) (P := fun s : Int32 × Int32 × Int32 × Int32 × Mm => J E G 3 mX11_crossings Q 32 [(0, rf E 0), (1, .int (s.1)), (2, .int (s.2.1)), (3, .int (s.2.2.1)), (4, .int (s.2.2.2.1))] [] (s.2.2.2.2)) (R := fun r : Int32 × Int32 × Int32 × Mm => J E G 3 mX11_crossings Q 91 [(0, rf E 0), (1, .int (r.1)), (2, .int (r.2.1)), (3, .int (r.2.2.1))] [] (r.2.2.2)) ?_ FU (x1, x2, x3, x4, μ) p (k _ rfl)
  clear p k
  rintro ⟨x1, x2, x3, x4, μ⟩ t k1 k2
  dsimp only [sd_X11_crossings_32] at t
  have kb : ∀ (y1 : Int32) (y2 : Int32) (y3 : Int32) (y4 : Int32) (μ9 : Mm), bd_X11_crossings_32  x1 x2 x3 x4 μ = .inl (y1, y2, y3, y4, μ9) → J E G 3 mX11_crossings Q 32 [(0, rf E 0), (1, .int y1), (2, .int y2), (3, .int y3), (4, .int y4)] [] μ9 := fun y1 y2 y3 y4 μ9 h => k1 (y1, y2, y3, y4, μ9) h
  have kx : ∀ (y1 : Int32) (y2 : Int32) (y3 : Int32) (μ9 : Mm), bd_X11_crossings_32  x1 x2 x3 x4 μ = .inr (y1, y2, y3, μ9) → J E G 3 mX11_crossings Q 91 [(0, rf E 0), (1, .int y1), (2, .int y2), (3, .int y3)] [] μ9 := fun y1 y2 y3 μ9 h => k2 (y1, y2, y3, μ9) h
  clear k1 k2
  refine J_iload (dk okX11_crossings 19 rfl) 4 rfl ?_
  refine J_bipush (v := 9) (dk okX11_crossings 20 rfl) (by decide) ?_
  refine J_icmp_gt (tgt := 91) (dk okX11_crossings 21 rfl) (by decide) (fun h1 => ?_) (fun h1 => ?_)
  · exact J_sub [0, 1, 2, 3] rfl (kx x1 x2 x3 μ (by unfold bd_X11_crossings_32; first | (simp only [if_pos h1]; done) | (simp only [if_pos h1]; rfl) | rfl))
  · have t := t h1
    refine J_iload_n (dk okX11_crossings 22 rfl) 3 rfl rfl ?_
    refine J_iload (dk okX11_crossings 23 rfl) 4 rfl ?_
    refine J_iload_n (dk okX11_crossings 24 rfl) 1 rfl rfl ?_
    obtain ⟨s2, t⟩ := t
    refine J_callSi (As := [.int x3, .int x4, .int x1]) (dk okX11_crossings 25 rfl) skX11_isBest lkX11_379 rfl rfl (Nat.le_of_ble_eq_true rfl) (by decide) (con_X11_isBest s2 ⟨_, rfl, ?_⟩)
    have K14 : J E G 3 mX11_crossings Q 85 [(0, rf E 0), (1, .int x1), (2, .int (if (v_X11_isBest x3 x4 x1 μ) = 0 then x2 else (if (v_X11_isBest x4 x3 x1 μ) = 0 then x2 else (x2 + 1) : Int32) : Int32)), (3, .int x3), (4, .int x4)] [] (if (v_X11_isBest x3 x4 x1 μ) = 0 then μ else (if (v_X11_isBest x4 x3 x1 μ) = 0 then μ else ((if x2 = 0 then ((e_X10_add (Int32.toInt64 x4) ((e_X10_add (Int32.toInt64 x3) μ)))) else μ : Mm)) : Mm) : Mm) := by
      refine J_nm (fun μ13 eμ13 => ?_)
      refine J_iinc (v := (x4 + 1)) (ls' := [(4, _), (0, _), (1, _), (2, _), (3, _)]) (dk okX11_crossings 45 rfl) 4 rfl rfl (by decide) rfl ?_
      refine J_goto (tgt := 32) (dk okX11_crossings 46 rfl) (by decide) ?_
      exact J_sub [1, 2, 3, 4, 0] rfl (kb x1 (if (v_X11_isBest x3 x4 x1 μ) = 0 then x2 else (if (v_X11_isBest x4 x3 x1 μ) = 0 then x2 else (x2 + 1) : Int32) : Int32) x3 (x4 + 1) μ13 (by subst eμ13; unfold bd_X11_crossings_32; first | (simp only [if_neg h1]; done) | (simp only [if_neg h1]; rfl) | rfl))
    refine J_if_eq (tgt := 85) (dk okX11_crossings 26 rfl) (by decide) (fun h3 => ?_) (fun h3 => ?_)
    · refine J_sub (ls' := [(0, _), (1, _), (2, _), (3, _), (4, _)]) [0, 1, 2, 3, 4] rfl ?_
      (try simp only [if_pos h3] at K14 ⊢); exact K14
    · have t := t h3
      refine J_iload (dk okX11_crossings 27 rfl) 4 rfl ?_
      refine J_iload_n (dk okX11_crossings 28 rfl) 3 rfl rfl ?_
      refine J_iload_n (dk okX11_crossings 29 rfl) 1 rfl rfl ?_
      obtain ⟨s4, t⟩ := t
      refine J_callSi (As := [.int x4, .int x3, .int x1]) (dk okX11_crossings 30 rfl) skX11_isBest lkX11_379 rfl rfl (Nat.le_of_ble_eq_true rfl) (by decide) (con_X11_isBest s4 ⟨_, rfl, ?_⟩)
      refine J_if_eq (tgt := 85) (dk okX11_crossings 31 rfl) (by decide) (fun h5 => ?_) (fun h5 => ?_)
      · refine J_sub (ls' := [(0, _), (1, _), (2, _), (3, _), (4, _)]) [0, 1, 2, 3, 4] rfl ?_
        (try simp only [if_neg h3, if_pos h5] at K14 ⊢); exact K14
      · have t := t h5
        refine J_iload_n (dk okX11_crossings 32 rfl) 2 rfl rfl ?_
        have K12 : J E G 3 mX11_crossings Q 82 [(0, rf E 0), (1, .int x1), (2, .int x2), (3, .int x3), (4, .int x4)] [] (if x2 = 0 then ((e_X10_add (Int32.toInt64 x4) ((e_X10_add (Int32.toInt64 x3) μ)))) else μ : Mm) := by
          refine J_nm (fun μ11 eμ11 => ?_)
          refine J_iinc (v := (x2 + 1)) (ls' := [(2, _), (0, _), (1, _), (3, _), (4, _)]) (dk okX11_crossings 44 rfl) 2 rfl rfl (by decide) rfl ?_
          subst eμ11
          refine J_sub (ls' := [(0, _), (1, _), (2, _), (3, _), (4, _)]) [1, 2, 0, 3, 4] rfl ?_
          (try simp only [if_neg h3, if_neg h5] at K14 ⊢); exact K14
        refine J_if_ne (tgt := 82) (dk okX11_crossings 33 rfl) (by decide) (fun h6 => ?_) (fun h6 => ?_)
        · refine J_sub (ls' := [(0, _), (1, _), (2, _), (3, _), (4, _)]) [0, 1, 2, 3, 4] rfl ?_
          (try simp only [if_neg h6] at K12 ⊢); exact K12
        · have t := t h6
          refine J_aload_n (dk okX11_crossings 34 rfl) 0 rfl rfl ?_
          refine J_getR (dk okX11_crossings 35 rfl) kfX11_39 ds_0 rfl ?_
          refine J_iload_n (dk okX11_crossings 36 rfl) 3 rfl rfl ?_
          refine J_i2l (dk okX11_crossings 37 rfl) ?_
          obtain ⟨s7, t⟩ := t
          refine J_callVv (As := [.long (Int32.toInt64 x3)]) (dk okX11_crossings 38 rfl) ds_27 rfl vkX10_add lkX11_199 rfl rfl (Nat.le_of_ble_eq_true rfl) (by decide) (con_X10_add s7 ⟨rfl, ?_⟩)
          refine J_nm (fun μ8 eμ8 => ?_)
          have t := t μ8 eμ8
          refine J_aload_n (dk okX11_crossings 39 rfl) 0 rfl rfl ?_
          refine J_getR (dk okX11_crossings 40 rfl) kfX11_39 ds_0 rfl ?_
          refine J_iload (dk okX11_crossings 41 rfl) 4 rfl ?_
          refine J_i2l (dk okX11_crossings 42 rfl) ?_
          have s9 := t
          refine J_callVv (As := [.long (Int32.toInt64 x4)]) (dk okX11_crossings 43 rfl) ds_27 rfl vkX10_add lkX11_199 rfl rfl (Nat.le_of_ble_eq_true rfl) (by decide) (con_X10_add s9 ⟨rfl, ?_⟩)
          refine J_nm (fun μ10 eμ10 => ?_)
          subst eμ10 eμ8
          refine J_sub (ls' := [(0, _), (1, _), (2, _), (3, _), (4, _)]) [0, 1, 2, 3, 4] rfl ?_
          (try simp only [if_pos h6] at K12 ⊢); exact K12
noncomputable def bd_X11_crossings_23  (x1 : Int32) (x2 : Int32) (x3 : Int32) (μ : Mm) : (Int32 × Int32 × Int32 × Mm) ⊕ (Int32 × Mm) := (if 9 < x3 then .inr (x2, μ) else (let r3 : Int32 × Int32 × Int32 × Mm := whl (fun s : Int32 × Int32 × Int32 × Int32 × Mm => bd_X11_crossings_32  s.1 s.2.1 s.2.2.1 s.2.2.2.1 s.2.2.2.2) (fun s : Int32 × Int32 × Int32 × Int32 × Mm => (0, 0, 0, s.2.2.2.2)) FU (x1, x2, x3, 0, μ); .inl ((r3.1), (r3.2.1), ((r3.2.2.1) + 1), (r3.2.2.2))))
def sd_X11_crossings_23   (x1 : Int32) (x2 : Int32) (x3 : Int32) (μ : Mm) : Prop := (¬ (9 < x3) → whP (fun s : Int32 × Int32 × Int32 × Int32 × Mm => bd_X11_crossings_32  s.1 s.2.1 s.2.2.1 s.2.2.2.1 s.2.2.2.2) (fun s : Int32 × Int32 × Int32 × Int32 × Mm => sd_X11_crossings_32   s.1 s.2.1 s.2.2.1 s.2.2.2.1 s.2.2.2.2) FU (x1, x2, x3, 0, μ))
set_option maxRecDepth 20000 in
set_option maxHeartbeats 4000000 in
theorem lw_X11_crossings_23 {E : Ex} {G : Gx} {Q : Option Value → Mm → Prop} {x1 : Int32} {x2 : Int32} {x3 : Int32} {μ : Mm}  (p : whP (fun s : Int32 × Int32 × Int32 × Mm => bd_X11_crossings_23  s.1 s.2.1 s.2.2.1 s.2.2.2) (fun s : Int32 × Int32 × Int32 × Mm => sd_X11_crossings_23   s.1 s.2.1 s.2.2.1 s.2.2.2) FU (x1, x2, x3, μ)) (k : ∀ r : Int32 × Mm, r = whl (fun s : Int32 × Int32 × Int32 × Mm => bd_X11_crossings_23  s.1 s.2.1 s.2.2.1 s.2.2.2) (fun s : Int32 × Int32 × Int32 × Mm => (0, s.2.2.2)) FU (x1, x2, x3, μ) → J E G 3 mX11_crossings Q 97 [(2, .int (r.1))] [] (r.2)) : J E G 3 mX11_crossings Q 23 [(0, rf E 0), (1, .int x1), (2, .int x2), (3, .int x3)] [] μ := by
  refine J_whl (f := (fun s : Int32 × Int32 × Int32 × Mm => bd_X11_crossings_23  s.1 s.2.1 s.2.2.1 s.2.2.2)) (dd := (fun s : Int32 × Int32 × Int32 × Mm => (0, s.2.2.2))) (sd := (fun s : Int32 × Int32 × Int32 × Mm => sd_X11_crossings_23   s.1 s.2.1 s.2.2.1 s.2.2.2)) (P := fun s : Int32 × Int32 × Int32 × Mm => J E G 3 mX11_crossings Q 23 [(0, rf E 0), (1, .int (s.1)), (2, .int (s.2.1)), (3, .int (s.2.2.1))] [] (s.2.2.2)) (R := fun r : Int32 × Mm => J E G 3 mX11_crossings Q 97 [(2, .int (r.1))] [] (r.2)) ?_ FU (x1, x2, x3, μ) p (k _ rfl)
  clear p k
  rintro ⟨x1, x2, x3, μ⟩ t k1 k2
  dsimp only [sd_X11_crossings_23] at t
  have kb : ∀ (y1 : Int32) (y2 : Int32) (y3 : Int32) (μ9 : Mm), bd_X11_crossings_23  x1 x2 x3 μ = .inl (y1, y2, y3, μ9) → J E G 3 mX11_crossings Q 23 [(0, rf E 0), (1, .int y1), (2, .int y2), (3, .int y3)] [] μ9 := fun y1 y2 y3 μ9 h => k1 (y1, y2, y3, μ9) h
  have kx : ∀ (y2 : Int32) (μ9 : Mm), bd_X11_crossings_23  x1 x2 x3 μ = .inr (y2, μ9) → J E G 3 mX11_crossings Q 97 [(2, .int y2)] [] μ9 := fun y2 μ9 h => k2 (y2, μ9) h
  clear k1 k2
  refine J_iload_n (dk okX11_crossings 14 rfl) 3 rfl rfl ?_
  refine J_bipush (v := 9) (dk okX11_crossings 15 rfl) (by decide) ?_
  refine J_icmp_gt (tgt := 97) (dk okX11_crossings 16 rfl) (by decide) (fun h1 => ?_) (fun h1 => ?_)
  · exact J_sub [2] rfl (kx x2 μ (by unfold bd_X11_crossings_23; first | (simp only [if_pos h1]; done) | (simp only [if_pos h1]; rfl) | rfl))
  · have t := t h1
    refine J_iconst (v := 0) (dk okX11_crossings 17 rfl) (by decide) ?_
    refine J_istore (ls' := [(4, _), (0, _), (1, _), (2, _), (3, _)]) (dk okX11_crossings 18 rfl) (by decide) rfl ?_
    have s2 := t
    refine J_sub (ls' := [(0, _), (1, _), (2, _), (3, _), (4, _)]) [1, 2, 3, 4, 0] rfl ?_
    refine lw_X11_crossings_32  s2 (fun r3 er3 => ?_)
    refine J_iinc (v := ((r3.2.2.1) + 1)) (ls' := [(3, _), (0, _), (1, _), (2, _)]) (dk okX11_crossings 47 rfl) 3 rfl rfl (by decide) rfl ?_
    refine J_goto (tgt := 23) (dk okX11_crossings 48 rfl) (by decide) ?_
    exact J_sub [1, 2, 3, 0] rfl (kb (r3.1) (r3.2.1) ((r3.2.2.1) + 1) (r3.2.2.2) (by subst er3; unfold bd_X11_crossings_23; first | (simp only [if_neg h1]; done) | (simp only [if_neg h1]; rfl) | rfl))
/-- VotingFloor.crossings(I)I -/
noncomputable def v_X11_crossings (p0 : Int32) (μ : Mm) : Int32 := (if p0 < 0 then (-1) else (if p0 ≤ 20 then (let μ3 : Mm := (e_X10_begin  μ); (let r5 : Int32 × Mm := whl (fun s : Int32 × Int32 × Int32 × Mm => bd_X11_crossings_23  s.1 s.2.1 s.2.2.1 s.2.2.2) (fun s : Int32 × Int32 × Int32 × Mm => (0, s.2.2.2)) FU (p0, 0, 0, μ3); (r5.1))) else (-1)))
noncomputable def e_X11_crossings (p0 : Int32) (μ : Mm) : Mm := (if p0 < 0 then μ else (if p0 ≤ 20 then (let μ3 : Mm := (e_X10_begin  μ); (let r5 : Int32 × Mm := whl (fun s : Int32 × Int32 × Int32 × Mm => bd_X11_crossings_23  s.1 s.2.1 s.2.2.1 s.2.2.2) (fun s : Int32 × Int32 × Int32 × Mm => (0, s.2.2.2)) FU (p0, 0, 0, μ3); (r5.2))) else μ))
def p_X11_crossings (p0 : Int32)  (μ : Mm) : Prop := (¬ (p0 < 0) → (p0 ≤ 20 → (∀ μ3 : Mm, μ3 = (e_X10_begin  μ) → whP (fun s : Int32 × Int32 × Int32 × Mm => bd_X11_crossings_23  s.1 s.2.1 s.2.2.1 s.2.2.2) (fun s : Int32 × Int32 × Int32 × Mm => sd_X11_crossings_23   s.1 s.2.1 s.2.2.1 s.2.2.2) FU (p0, 0, 0, μ3))))
set_option maxRecDepth 20000 in
set_option maxHeartbeats 4000000 in
theorem con_X11_crossings {E : Ex} {Q : Option Value → Mm → Prop} {p0 : Int32} {μ : Mm} (t : p_X11_crossings p0  μ) (k : Q (some (.int (v_X11_crossings p0 μ))) (e_X11_crossings p0 μ)) : Con E 3 mX11_crossings [rf E 0, .int p0] μ Q := by
  refine Con_J (by decide +kernel) (Nat.le_of_ble_eq_true rfl) (fun G => ?_)
  unfold v_X11_crossings e_X11_crossings at k
  unfold p_X11_crossings at t
  refine J_sub (ls' := [(0, rf E 0), (1, .int p0)]) [0, 1] rfl ?_
  refine J_iload_n (dk okX11_crossings 0 rfl) 1 rfl rfl ?_
  refine J_if_lt (tgt := 10) (dk okX11_crossings 1 rfl) (by decide) (fun h1 => ?_) (fun h1 => ?_)
  · refine J_iconst (v := (-1)) (dk okX11_crossings 5 rfl) (by decide) ?_
    (try simp only [if_pos h1] at k ⊢)
    exact J_iret (dk okX11_crossings 6 rfl) rfl k
  · have t := t h1
    refine J_iload_n (dk okX11_crossings 2 rfl) 1 rfl rfl ?_
    refine J_bipush (v := 20) (dk okX11_crossings 3 rfl) (by decide) ?_
    refine J_icmp_le (tgt := 12) (dk okX11_crossings 4 rfl) (by decide) (fun h2 => ?_) (fun h2 => ?_)
    · have t := t h2
      refine J_aload_n (dk okX11_crossings 7 rfl) 0 rfl rfl ?_
      refine J_getR (dk okX11_crossings 8 rfl) kfX11_39 ds_0 rfl ?_
      refine J_callVv (As := []) (dk okX11_crossings 9 rfl) ds_27 rfl vkX10_begin lkX11_196 rfl rfl (Nat.le_of_ble_eq_true rfl) (by decide) (con_X10_begin  ⟨rfl, ?_⟩)
      refine J_nm (fun μ3 eμ3 => ?_)
      have t := t μ3 eμ3
      refine J_iconst (v := 0) (dk okX11_crossings 10 rfl) (by decide) ?_
      refine J_istore_n (ls' := [(2, _), (0, _), (1, _)]) (dk okX11_crossings 11 rfl) rfl (by decide) rfl ?_
      refine J_iconst (v := 0) (dk okX11_crossings 12 rfl) (by decide) ?_
      refine J_istore_n (ls' := [(3, _), (2, _), (0, _), (1, _)]) (dk okX11_crossings 13 rfl) rfl (by decide) rfl ?_
      have s4 := t
      refine J_sub (ls' := [(0, _), (1, _), (2, _), (3, _)]) [2, 3, 1, 0] rfl ?_
      refine lw_X11_crossings_23  s4 (fun r5 er5 => ?_)
      refine J_iload_n (dk okX11_crossings 49 rfl) 0 rfl rfl ?_
      subst er5 eμ3
      (try simp only [if_neg h1, if_pos h2] at k ⊢)
      exact J_iret (dk okX11_crossings 50 rfl) rfl k
    · refine J_iconst (v := (-1)) (dk okX11_crossings 5 rfl) (by decide) ?_
      (try simp only [if_neg h1, if_neg h2] at k ⊢)
      exact J_iret (dk okX11_crossings 6 rfl) rfl k
noncomputable def bd_X11_crowd_7  (μ : Mm) (x1 : Int32) (x2 : Int32) (x3 : Int32) : (Int32 × Int32 × Int32) ⊕ (Int32 × Int32) := (if 9 < x3 then .inr (x1, x2) else .inl ((if (v_J6_bitCount_0f7a4 (v_X1_standingOn 1 x3 μ)) ≤ x1 then x1 else (v_J6_bitCount_0f7a4 (v_X1_standingOn 1 x3 μ)) : Int32), (if (v_J6_bitCount_0f7a4 (v_X1_standingOn 1 x3 μ)) ≤ x1 then x2 else x3 : Int32), (x3 + 1)))
def sd_X11_crowd_7   (μ : Mm) (x1 : Int32) (x2 : Int32) (x3 : Int32) : Prop := (¬ (9 < x3) → p_X1_standingOn 1 x3 μ)
set_option maxRecDepth 20000 in
set_option maxHeartbeats 4000000 in
theorem lw_X11_crowd_7 {E : Ex} {G : Gx} {Q : Option Value → Mm → Prop} {x1 : Int32} {x2 : Int32} {x3 : Int32} {μ : Mm}  (p : whP (fun s : Int32 × Int32 × Int32 => bd_X11_crowd_7  μ s.1 s.2.1 s.2.2) (fun s : Int32 × Int32 × Int32 => sd_X11_crowd_7   μ s.1 s.2.1 s.2.2) FU (x1, x2, x3)) (k : ∀ r : Int32 × Int32, r = whl (fun s : Int32 × Int32 × Int32 => bd_X11_crowd_7  μ s.1 s.2.1 s.2.2) (fun _ : Int32 × Int32 × Int32 => (0, 0)) FU (x1, x2, x3) → J E G 3 mX11_crowd Q 43 [(0, rf E 0), (1, .int (r.1)), (2, .int (r.2))] [] μ) : J E G 3 mX11_crowd Q 7 [(0, rf E 0), (1, .int x1), (2, .int x2), (3, .int x3)] [] μ := by
  refine J_whl (f := (fun s : Int32 × Int32 × Int32 => bd_X11_crowd_7  μ s.1 s.2.1 s.2.2)) (dd := (fun _ : Int32 × Int32 × Int32 => (0, 0))) (sd := (fun s : Int32 × Int32 × Int32 => sd_X11_crowd_7   μ s.1 s.2.1 s.2.2)) (P := fun s : Int32 × Int32 × Int32 => J E G 3 mX11_crowd Q 7 [(0, rf E 0), (1, .int (s.1)), (2, .int (s.2.1)), (3, .int (s.2.2))] [] (μ)) (R := fun r : Int32 × Int32 => J E G 3 mX11_crowd Q 43 [(0, rf E 0), (1, .int (r.1)), (2, .int (r.2))] [] μ) ?_ FU (x1, x2, x3) p (k _ rfl)
  clear p k
  rintro ⟨x1, x2, x3⟩ t k1 k2
  dsimp only [sd_X11_crowd_7] at t
  have kb : ∀ (y1 : Int32) (y2 : Int32) (y3 : Int32) , bd_X11_crowd_7  μ x1 x2 x3 = .inl (y1, y2, y3) → J E G 3 mX11_crowd Q 7 [(0, rf E 0), (1, .int y1), (2, .int y2), (3, .int y3)] [] μ := fun y1 y2 y3  h => k1 (y1, y2, y3) h
  have kx : ∀ (y1 : Int32) (y2 : Int32) , bd_X11_crowd_7  μ x1 x2 x3 = .inr (y1, y2) → J E G 3 mX11_crowd Q 43 [(0, rf E 0), (1, .int y1), (2, .int y2)] [] μ := fun y1 y2  h => k2 (y1, y2) h
  clear k1 k2
  refine J_iload_n (dk okX11_crowd 6 rfl) 3 rfl rfl ?_
  refine J_bipush (v := 9) (dk okX11_crowd 7 rfl) (by decide) ?_
  refine J_icmp_gt (tgt := 43) (dk okX11_crowd 8 rfl) (by decide) (fun h1 => ?_) (fun h1 => ?_)
  · exact J_sub [0, 1, 2] rfl (kx x1 x2 (by unfold bd_X11_crowd_7; first | (simp only [if_pos h1]; done) | (simp only [if_pos h1]; rfl) | rfl))
  · have t := t h1
    refine J_aload_n (dk okX11_crowd 9 rfl) 0 rfl rfl ?_
    refine J_getR (dk okX11_crowd 10 rfl) kfX11_12 ds_0 rfl ?_
    refine J_iload_n (dk okX11_crowd 11 rfl) 3 rfl rfl ?_
    have s2 := t
    refine J_callVi (As := [.int x3]) (dk okX11_crowd 12 rfl) ds_1 rfl vkX1_standingOn lkX11_203 rfl rfl (Nat.le_of_ble_eq_true rfl) (by decide) (con_X1_standingOn FloorAt_1 s2 ⟨_, rfl, ?_⟩)
    refine J_callSi (As := [.int (v_X1_standingOn 1 x3 μ)]) (dk okX11_crowd 13 rfl) skJ6_bitCount_0f7a4 lkX11_206 rfl rfl (Nat.le_of_ble_eq_true rfl) (by decide) (con_J6_bitCount_0f7a4  ⟨_, rfl, ?_⟩)
    refine J_istore (ls' := [(4, _), (0, _), (1, _), (2, _), (3, _)]) (dk okX11_crowd 14 rfl) (by decide) rfl ?_
    refine J_iload (dk okX11_crowd 15 rfl) 0 rfl ?_
    refine J_iload_n (dk okX11_crowd 16 rfl) 2 rfl rfl ?_
    have K4 : J E G 3 mX11_crowd Q 37 [(0, rf E 0), (1, .int (if (v_J6_bitCount_0f7a4 (v_X1_standingOn 1 x3 μ)) ≤ x1 then x1 else (v_J6_bitCount_0f7a4 (v_X1_standingOn 1 x3 μ)) : Int32)), (2, .int (if (v_J6_bitCount_0f7a4 (v_X1_standingOn 1 x3 μ)) ≤ x1 then x2 else x3 : Int32)), (3, .int x3)] [] μ := by
      refine J_iinc (v := (x3 + 1)) (ls' := [(3, _), (0, _), (1, _), (2, _)]) (dk okX11_crowd 22 rfl) 3 rfl rfl (by decide) rfl ?_
      refine J_goto (tgt := 7) (dk okX11_crowd 23 rfl) (by decide) ?_
      exact J_sub [1, 2, 3, 0] rfl (kb (if (v_J6_bitCount_0f7a4 (v_X1_standingOn 1 x3 μ)) ≤ x1 then x1 else (v_J6_bitCount_0f7a4 (v_X1_standingOn 1 x3 μ)) : Int32) (if (v_J6_bitCount_0f7a4 (v_X1_standingOn 1 x3 μ)) ≤ x1 then x2 else x3 : Int32) (x3 + 1) (by unfold bd_X11_crowd_7; first | (simp only [if_neg h1]; done) | (simp only [if_neg h1]; rfl) | rfl))
    refine J_icmp_le (tgt := 37) (dk okX11_crowd 17 rfl) (by decide) (fun h3 => ?_) (fun h3 => ?_)
    · refine J_sub (ls' := [(0, _), (1, _), (2, _), (3, _)]) [1, 2, 3, 4] rfl ?_
      (try simp only [if_pos h3] at K4 ⊢); exact K4
    · refine J_iload (dk okX11_crowd 18 rfl) 0 rfl ?_
      refine J_istore_n (ls' := [(1, _), (4, _), (0, _), (2, _), (3, _)]) (dk okX11_crowd 19 rfl) rfl (by decide) rfl ?_
      refine J_iload_n (dk okX11_crowd 20 rfl) 4 rfl rfl ?_
      refine J_istore_n (ls' := [(2, _), (1, _), (4, _), (0, _), (3, _)]) (dk okX11_crowd 21 rfl) rfl (by decide) rfl ?_
      refine J_sub (ls' := [(0, _), (1, _), (2, _), (3, _)]) [3, 1, 0, 4] rfl ?_
      (try simp only [if_neg h3] at K4 ⊢); exact K4
/-- VotingFloor.crowd()I -/
noncomputable def v_X11_crowd  (μ : Mm) : Int32 := (let r2 : Int32 × Int32 := whl (fun s : Int32 × Int32 × Int32 => bd_X11_crowd_7  μ s.1 s.2.1 s.2.2) (fun _ : Int32 × Int32 × Int32 => (0, 0)) FU (0, 0, (-9)); (r2.1))
noncomputable def e_X11_crowd  (μ : Mm) : Mm := (let r2 : Int32 × Int32 := whl (fun s : Int32 × Int32 × Int32 => bd_X11_crowd_7  μ s.1 s.2.1 s.2.2) (fun _ : Int32 × Int32 × Int32 => (0, 0)) FU (0, 0, (-9)); (let μ3 : Mm := (e_X10_begin  μ); (let μ10 : Mm := (if (r2.1) ≤ 0 then μ3 else ((e_X10_add (Int32.toInt64 (v_X1_standingOn 1 (r2.2) ((e_X10_add (Int32.toInt64 (100 + (r2.2))) μ3)))) ((e_X10_add (Int32.toInt64 (100 + (r2.2))) μ3)))) : Mm); μ10)))
def p_X11_crowd   (μ : Mm) : Prop := (whP (fun s : Int32 × Int32 × Int32 => bd_X11_crowd_7  μ s.1 s.2.1 s.2.2) (fun s : Int32 × Int32 × Int32 => sd_X11_crowd_7   μ s.1 s.2.1 s.2.2) FU (0, 0, (-9))) ∧ (∀ r2 : Int32 × Int32, r2 = whl (fun s : Int32 × Int32 × Int32 => bd_X11_crowd_7  μ s.1 s.2.1 s.2.2) (fun _ : Int32 × Int32 × Int32 => (0, 0)) FU (0, 0, (-9)) → (∀ μ3 : Mm, μ3 = (e_X10_begin  μ) → (¬ ((r2.1) ≤ 0) → (p_X10_add (Int32.toInt64 (100 + (r2.2))) μ3) ∧ (∀ μ6 : Mm, μ6 = (e_X10_add (Int32.toInt64 (100 + (r2.2))) μ3) → (p_X1_standingOn 1 (r2.2) μ6) ∧ p_X10_add (Int32.toInt64 (v_X1_standingOn 1 (r2.2) μ6)) μ6))))
set_option maxRecDepth 20000 in
set_option maxHeartbeats 4000000 in
theorem con_X11_crowd {E : Ex} {Q : Option Value → Mm → Prop} {μ : Mm} (t : p_X11_crowd   μ) (k : Q (some (.int (v_X11_crowd  μ))) (e_X11_crowd  μ)) : Con E 3 mX11_crowd [rf E 0] μ Q := by
  refine Con_J (by decide +kernel) (Nat.le_of_ble_eq_true rfl) (fun G => ?_)
  unfold v_X11_crowd e_X11_crowd at k
  unfold p_X11_crowd at t
  refine J_sub (ls' := [(0, rf E 0)]) [0] rfl ?_
  refine J_iconst (v := 0) (dk okX11_crowd 0 rfl) (by decide) ?_
  refine J_istore_n (ls' := [(1, _), (0, _)]) (dk okX11_crowd 1 rfl) rfl (by decide) rfl ?_
  refine J_iconst (v := 0) (dk okX11_crowd 2 rfl) (by decide) ?_
  refine J_istore_n (ls' := [(2, _), (1, _), (0, _)]) (dk okX11_crowd 3 rfl) rfl (by decide) rfl ?_
  refine J_bipush (v := (-9)) (dk okX11_crowd 4 rfl) (by decide) ?_
  refine J_istore_n (ls' := [(3, _), (2, _), (1, _), (0, _)]) (dk okX11_crowd 5 rfl) rfl (by decide) rfl ?_
  obtain ⟨s1, t⟩ := t
  refine J_sub (ls' := [(0, _), (1, _), (2, _), (3, _)]) [3, 2, 1, 0] rfl ?_
  refine lw_X11_crowd_7  s1 (fun r2 er2 => ?_)
  have t := t r2 er2
  refine J_aload_n (dk okX11_crowd 24 rfl) 0 rfl rfl ?_
  refine J_getR (dk okX11_crowd 25 rfl) kfX11_39 ds_0 rfl ?_
  refine J_callVv (As := []) (dk okX11_crowd 26 rfl) ds_27 rfl vkX10_begin lkX11_196 rfl rfl (Nat.le_of_ble_eq_true rfl) (by decide) (con_X10_begin  ⟨rfl, ?_⟩)
  refine J_nm (fun μ3 eμ3 => ?_)
  have t := t μ3 eμ3
  refine J_iload_n (dk okX11_crowd 27 rfl) 1 rfl rfl ?_
  have K11 : J E G 3 mX11_crowd Q 82 [(1, .int (r2.1))] [] (if (r2.1) ≤ 0 then μ3 else ((e_X10_add (Int32.toInt64 (v_X1_standingOn 1 (r2.2) ((e_X10_add (Int32.toInt64 (100 + (r2.2))) μ3)))) ((e_X10_add (Int32.toInt64 (100 + (r2.2))) μ3)))) : Mm) := by
    refine J_nm (fun μ10 eμ10 => ?_)
    refine J_iload_n (dk okX11_crowd 44 rfl) 0 rfl rfl ?_
    subst eμ10 eμ3 er2
    exact J_iret (dk okX11_crowd 45 rfl) rfl k
  refine J_if_le (tgt := 82) (dk okX11_crowd 28 rfl) (by decide) (fun h4 => ?_) (fun h4 => ?_)
  · refine J_sub (ls' := [(1, _)]) [1] rfl ?_
    (try simp only [if_pos h4] at K11 ⊢); exact K11
  · have t := t h4
    refine J_aload_n (dk okX11_crowd 29 rfl) 0 rfl rfl ?_
    refine J_getR (dk okX11_crowd 30 rfl) kfX11_39 ds_0 rfl ?_
    refine J_bipush (v := 100) (dk okX11_crowd 31 rfl) (by decide) ?_
    refine J_iload_n (dk okX11_crowd 32 rfl) 2 rfl rfl ?_
    refine J_iadd (dk okX11_crowd 33 rfl) ?_
    refine J_i2l (dk okX11_crowd 34 rfl) ?_
    obtain ⟨s5, t⟩ := t
    refine J_callVv (As := [.long (Int32.toInt64 (100 + (r2.2)))]) (dk okX11_crowd 35 rfl) ds_27 rfl vkX10_add lkX11_199 rfl rfl (Nat.le_of_ble_eq_true rfl) (by decide) (con_X10_add s5 ⟨rfl, ?_⟩)
    refine J_nm (fun μ6 eμ6 => ?_)
    have t := t μ6 eμ6
    refine J_aload_n (dk okX11_crowd 36 rfl) 0 rfl rfl ?_
    refine J_getR (dk okX11_crowd 37 rfl) kfX11_39 ds_0 rfl ?_
    refine J_aload_n (dk okX11_crowd 38 rfl) 0 rfl rfl ?_
    refine J_getR (dk okX11_crowd 39 rfl) kfX11_12 ds_0 rfl ?_
    refine J_iload_n (dk okX11_crowd 40 rfl) 2 rfl rfl ?_
    obtain ⟨s7, t⟩ := t
    refine J_callVi (As := [.int (r2.2)]) (dk okX11_crowd 41 rfl) ds_1 rfl vkX1_standingOn lkX11_203 rfl rfl (Nat.le_of_ble_eq_true rfl) (by decide) (con_X1_standingOn FloorAt_1 s7 ⟨_, rfl, ?_⟩)
    refine J_i2l (dk okX11_crowd 42 rfl) ?_
    have s8 := t
    refine J_callVv (As := [.long (Int32.toInt64 (v_X1_standingOn 1 (r2.2) μ6))]) (dk okX11_crowd 43 rfl) ds_27 rfl vkX10_add lkX11_199 rfl rfl (Nat.le_of_ble_eq_true rfl) (by decide) (con_X10_add s8 ⟨rfl, ?_⟩)
    refine J_nm (fun μ9 eμ9 => ?_)
    subst eμ9 eμ6
    refine J_sub (ls' := [(1, _)]) [1] rfl ?_
    (try simp only [if_neg h4] at K11 ⊢); exact K11
noncomputable def bd_X11_faints_43  (x1 : Int32) (x2 : Int32) (x3 : Int32) (x4 : Int32) (μ : Mm) : (Int32 × Int32 × Int32 × Int32 × Mm) ⊕ (Int32 × Int32 × Int32 × Mm) := (if (μ.1 1 0) ≤ x4 then .inr (x1, x2, x3, μ) else (let μ5 : Mm := (upI μ 34 (Int32.toNatClampNeg x4) ((-(v_X1_load 1 x4 μ)) * (μ.1 4 (Int32.toNatClampNeg x4)))); .inl (x1, x2, x3, (x4 + 1), μ5)))
def sd_X11_faints_43   (x1 : Int32) (x2 : Int32) (x3 : Int32) (x4 : Int32) (μ : Mm) : Prop := (¬ ((μ.1 1 0) ≤ x4) → (p_X1_load 1 x4 μ) ∧ (vp_in x4 7) ∧ vp_in x4 7)
set_option maxRecDepth 20000 in
set_option maxHeartbeats 4000000 in
theorem lw_X11_faints_43 {E : Ex} {G : Gx} {Q : Option Value → Mm → Prop} {x1 : Int32} {x2 : Int32} {x3 : Int32} {x4 : Int32} {μ : Mm}  (p : whP (fun s : Int32 × Int32 × Int32 × Int32 × Mm => bd_X11_faints_43  s.1 s.2.1 s.2.2.1 s.2.2.2.1 s.2.2.2.2) (fun s : Int32 × Int32 × Int32 × Int32 × Mm => sd_X11_faints_43   s.1 s.2.1 s.2.2.1 s.2.2.2.1 s.2.2.2.2) FU (x1, x2, x3, x4, μ)) (k : ∀ r : Int32 × Int32 × Int32 × Mm, r = whl (fun s : Int32 × Int32 × Int32 × Int32 × Mm => bd_X11_faints_43  s.1 s.2.1 s.2.2.1 s.2.2.2.1 s.2.2.2.2) (fun s : Int32 × Int32 × Int32 × Int32 × Mm => (0, 0, 0, s.2.2.2.2)) FU (x1, x2, x3, x4, μ) → J E G 3 mX11_faints Q 92 [(0, rf E 0), (1, .int (r.1)), (2, .int (r.2.1)), (3, .int (r.2.2.1))] [] (r.2.2.2)) : J E G 3 mX11_faints Q 43 [(0, rf E 0), (1, .int x1), (2, .int x2), (3, .int x3), (4, .int x4)] [] μ := by
  refine J_whl (f := (fun s : Int32 × Int32 × Int32 × Int32 × Mm => bd_X11_faints_43  s.1 s.2.1 s.2.2.1 s.2.2.2.1 s.2.2.2.2)) (dd := (fun s : Int32 × Int32 × Int32 × Int32 × Mm => (0, 0, 0, s.2.2.2.2))) (sd := (fun s : Int32 × Int32 × Int32 × Int32 × Mm => sd_X11_faints_43   s.1 s.2.1 s.2.2.1 s.2.2.2.1 s.2.2.2.2)) (P := fun s : Int32 × Int32 × Int32 × Int32 × Mm => J E G 3 mX11_faints Q 43 [(0, rf E 0), (1, .int (s.1)), (2, .int (s.2.1)), (3, .int (s.2.2.1)), (4, .int (s.2.2.2.1))] [] (s.2.2.2.2)) (R := fun r : Int32 × Int32 × Int32 × Mm => J E G 3 mX11_faints Q 92 [(0, rf E 0), (1, .int (r.1)), (2, .int (r.2.1)), (3, .int (r.2.2.1))] [] (r.2.2.2)) ?_ FU (x1, x2, x3, x4, μ) p (k _ rfl)
  clear p k
  rintro ⟨x1, x2, x3, x4, μ⟩ t k1 k2
  dsimp only [sd_X11_faints_43] at t
  have kb : ∀ (y1 : Int32) (y2 : Int32) (y3 : Int32) (y4 : Int32) (μ9 : Mm), bd_X11_faints_43  x1 x2 x3 x4 μ = .inl (y1, y2, y3, y4, μ9) → J E G 3 mX11_faints Q 43 [(0, rf E 0), (1, .int y1), (2, .int y2), (3, .int y3), (4, .int y4)] [] μ9 := fun y1 y2 y3 y4 μ9 h => k1 (y1, y2, y3, y4, μ9) h
  have kx : ∀ (y1 : Int32) (y2 : Int32) (y3 : Int32) (μ9 : Mm), bd_X11_faints_43  x1 x2 x3 x4 μ = .inr (y1, y2, y3, μ9) → J E G 3 mX11_faints Q 92 [(0, rf E 0), (1, .int y1), (2, .int y2), (3, .int y3)] [] μ9 := fun y1 y2 y3 μ9 h => k2 (y1, y2, y3, μ9) h
  clear k1 k2
  refine J_iload (dk okX11_faints 23 rfl) 4 rfl ?_
  refine J_aload_n (dk okX11_faints 24 rfl) 0 rfl rfl ?_
  refine J_getR (dk okX11_faints 25 rfl) kfX11_12 ds_0 rfl ?_
  refine J_getI (dk okX11_faints 26 rfl) kfX11_106 ds_1 rfl ?_
  refine J_icmp_ge (tgt := 92) (dk okX11_faints 27 rfl) (by decide) (fun h1 => ?_) (fun h1 => ?_)
  · exact J_sub [0, 1, 2, 3] rfl (kx x1 x2 x3 μ (by unfold bd_X11_faints_43; first | (simp only [if_pos h1]; done) | (simp only [if_pos h1]; rfl) | rfl))
  · have t := t h1
    refine J_aload_n (dk okX11_faints 28 rfl) 0 rfl rfl ?_
    refine J_getR (dk okX11_faints 29 rfl) kfX11_53 ds_0 rfl ?_
    refine J_getR (dk okX11_faints 30 rfl) kfX11_291 ds_33 rfl ?_
    refine J_iload (dk okX11_faints 31 rfl) 4 rfl ?_
    refine J_aload_n (dk okX11_faints 32 rfl) 0 rfl rfl ?_
    refine J_getR (dk okX11_faints 33 rfl) kfX11_12 ds_0 rfl ?_
    refine J_iload (dk okX11_faints 34 rfl) 4 rfl ?_
    obtain ⟨s2, t⟩ := t
    refine J_callVi (As := [.int x4]) (dk okX11_faints 35 rfl) ds_1 rfl vkX1_load lkX11_285 rfl rfl (Nat.le_of_ble_eq_true rfl) (by decide) (con_X1_load FloorAt_1 s2 ⟨_, rfl, ?_⟩)
    refine J_ineg (dk okX11_faints 36 rfl) ?_
    refine J_aload_n (dk okX11_faints 37 rfl) 0 rfl rfl ?_
    refine J_getR (dk okX11_faints 38 rfl) kfX11_12 ds_0 rfl ?_
    refine J_getR (dk okX11_faints 39 rfl) kfX11_154 ds_1 rfl ?_
    refine J_iload (dk okX11_faints 40 rfl) 4 rfl ?_
    obtain ⟨s3, t⟩ := t
    refine J_iald (dk okX11_faints 41 rfl) ds_4 s3 ?_
    refine J_imul (dk okX11_faints 42 rfl) ?_
    have s4 := t
    refine J_iast (dk okX11_faints 43 rfl) ds_34 s4 ?_
    refine J_nm (fun μ5 eμ5 => ?_)
    refine J_iinc (v := (x4 + 1)) (ls' := [(4, _), (0, _), (1, _), (2, _), (3, _)]) (dk okX11_faints 44 rfl) 4 rfl rfl (by decide) rfl ?_
    refine J_goto (tgt := 43) (dk okX11_faints 45 rfl) (by decide) ?_
    exact J_sub [1, 2, 3, 4, 0] rfl (kb x1 x2 x3 (x4 + 1) μ5 (by subst eμ5; unfold bd_X11_faints_43; first | (simp only [if_neg h1]; done) | (simp only [if_neg h1]; rfl) | rfl))
noncomputable def bd_X11_faints_98  (μ : Mm) (x1 : Int32) (x2 : Int32) (x3 : Int32) (x4 : Int64) (x6 : Int32) : (Int32 × Int32 × Int32 × Int64 × Int32) ⊕ (Int32 × Int64) := (if x2 < x6 then .inr (x3, x4) else .inl (x1, x2, x3, (if (x6 &&& (x2 ^^^ (-1))) = 0 then (if (v_X8_total x6 μ) ≤ 0 then x4 else (x4 + ((v_X11_raised x1 (v_J6_bitCount_0f7a4 x6) μ) * (v_X11_raised (10 - x1) (x3 - (v_J6_bitCount_0f7a4 x6)) μ))) : Int64) else x4 : Int64), (x6 + 1)))
def sd_X11_faints_98   (μ : Mm) (x1 : Int32) (x2 : Int32) (x3 : Int32) (x4 : Int64) (x6 : Int32) : Prop := (¬ (x2 < x6) → ((x6 &&& (x2 ^^^ (-1))) = 0 → (p_X8_total x6 μ) ∧ (¬ ((v_X8_total x6 μ) ≤ 0) → (p_X11_raised x1 (v_J6_bitCount_0f7a4 x6) μ) ∧ p_X11_raised (10 - x1) (x3 - (v_J6_bitCount_0f7a4 x6)) μ)))
set_option maxRecDepth 20000 in
set_option maxHeartbeats 4000000 in
theorem lw_X11_faints_98 {E : Ex} {G : Gx} {Q : Option Value → Mm → Prop} {x1 : Int32} {x2 : Int32} {x3 : Int32} {x4 : Int64} {x6 : Int32} {μ : Mm}  (p : whP (fun s : Int32 × Int32 × Int32 × Int64 × Int32 => bd_X11_faints_98  μ s.1 s.2.1 s.2.2.1 s.2.2.2.1 s.2.2.2.2) (fun s : Int32 × Int32 × Int32 × Int64 × Int32 => sd_X11_faints_98   μ s.1 s.2.1 s.2.2.1 s.2.2.2.1 s.2.2.2.2) FU (x1, x2, x3, x4, x6)) (k : ∀ r : Int32 × Int64, r = whl (fun s : Int32 × Int32 × Int32 × Int64 × Int32 => bd_X11_faints_98  μ s.1 s.2.1 s.2.2.1 s.2.2.2.1 s.2.2.2.2) (fun _ : Int32 × Int32 × Int32 × Int64 × Int32 => (0, 0)) FU (x1, x2, x3, x4, x6) → J E G 3 mX11_faints Q 161 [(0, rf E 0), (3, .int (r.1)), (4, .long (r.2))] [] μ) : J E G 3 mX11_faints Q 98 [(0, rf E 0), (1, .int x1), (2, .int x2), (3, .int x3), (4, .long x4), (6, .int x6)] [] μ := by
  refine J_whl (f := (fun s : Int32 × Int32 × Int32 × Int64 × Int32 => bd_X11_faints_98  μ s.1 s.2.1 s.2.2.1 s.2.2.2.1 s.2.2.2.2)) (dd := (fun _ : Int32 × Int32 × Int32 × Int64 × Int32 => (0, 0))) (sd := (fun s : Int32 × Int32 × Int32 × Int64 × Int32 => sd_X11_faints_98   μ s.1 s.2.1 s.2.2.1 s.2.2.2.1 s.2.2.2.2)) (P := fun s : Int32 × Int32 × Int32 × Int64 × Int32 => J E G 3 mX11_faints Q 98 [(0, rf E 0), (1, .int (s.1)), (2, .int (s.2.1)), (3, .int (s.2.2.1)), (4, .long (s.2.2.2.1)), (6, .int (s.2.2.2.2))] [] (μ)) (R := fun r : Int32 × Int64 => J E G 3 mX11_faints Q 161 [(0, rf E 0), (3, .int (r.1)), (4, .long (r.2))] [] μ) ?_ FU (x1, x2, x3, x4, x6) p (k _ rfl)
  clear p k
  rintro ⟨x1, x2, x3, x4, x6⟩ t k1 k2
  dsimp only [sd_X11_faints_98] at t
  have kb : ∀ (y1 : Int32) (y2 : Int32) (y3 : Int32) (y4 : Int64) (y6 : Int32) , bd_X11_faints_98  μ x1 x2 x3 x4 x6 = .inl (y1, y2, y3, y4, y6) → J E G 3 mX11_faints Q 98 [(0, rf E 0), (1, .int y1), (2, .int y2), (3, .int y3), (4, .long y4), (6, .int y6)] [] μ := fun y1 y2 y3 y4 y6  h => k1 (y1, y2, y3, y4, y6) h
  have kx : ∀ (y3 : Int32) (y4 : Int64) , bd_X11_faints_98  μ x1 x2 x3 x4 x6 = .inr (y3, y4) → J E G 3 mX11_faints Q 161 [(0, rf E 0), (3, .int y3), (4, .long y4)] [] μ := fun y3 y4  h => k2 (y3, y4) h
  clear k1 k2
  refine J_iload (dk okX11_faints 50 rfl) 5 rfl ?_
  refine J_iload_n (dk okX11_faints 51 rfl) 2 rfl rfl ?_
  refine J_icmp_gt (tgt := 161) (dk okX11_faints 52 rfl) (by decide) (fun h1 => ?_) (fun h1 => ?_)
  · exact J_sub [0, 3, 4] rfl (kx x3 x4 (by unfold bd_X11_faints_98; first | (simp only [if_pos h1]; done) | (simp only [if_pos h1]; rfl) | rfl))
  · have t := t h1
    refine J_iload (dk okX11_faints 53 rfl) 5 rfl ?_
    refine J_iload_n (dk okX11_faints 54 rfl) 2 rfl rfl ?_
    refine J_iconst (v := (-1)) (dk okX11_faints 55 rfl) (by decide) ?_
    refine J_ixor (dk okX11_faints 56 rfl) ?_
    refine J_iand (dk okX11_faints 57 rfl) ?_
    have K7 : J E G 3 mX11_faints Q 155 [(0, rf E 0), (1, .int x1), (2, .int x2), (3, .int x3), (4, .long (if (x6 &&& (x2 ^^^ (-1))) = 0 then (if (v_X8_total x6 μ) ≤ 0 then x4 else (x4 + ((v_X11_raised x1 (v_J6_bitCount_0f7a4 x6) μ) * (v_X11_raised (10 - x1) (x3 - (v_J6_bitCount_0f7a4 x6)) μ))) : Int64) else x4 : Int64)), (6, .int x6)] [] μ := by
      refine J_iinc (v := (x6 + 1)) (ls' := [(6, _), (0, _), (1, _), (2, _), (3, _), (4, _)]) (dk okX11_faints 81 rfl) 5 rfl rfl (by decide) rfl ?_
      refine J_goto (tgt := 98) (dk okX11_faints 82 rfl) (by decide) ?_
      exact J_sub [1, 2, 3, 4, 5, 0] rfl (kb x1 x2 x3 (if (x6 &&& (x2 ^^^ (-1))) = 0 then (if (v_X8_total x6 μ) ≤ 0 then x4 else (x4 + ((v_X11_raised x1 (v_J6_bitCount_0f7a4 x6) μ) * (v_X11_raised (10 - x1) (x3 - (v_J6_bitCount_0f7a4 x6)) μ))) : Int64) else x4 : Int64) (x6 + 1) (by unfold bd_X11_faints_98; first | (simp only [if_neg h1]; done) | (simp only [if_neg h1]; rfl) | rfl))
    refine J_if_ne (tgt := 155) (dk okX11_faints 58 rfl) (by decide) (fun h2 => ?_) (fun h2 => ?_)
    · refine J_sub (ls' := [(0, _), (1, _), (2, _), (3, _), (4, _), (6, _)]) [0, 1, 2, 3, 4, 5] rfl ?_
      (try simp only [if_neg h2] at K7 ⊢); exact K7
    · have t := t h2
      refine J_aload_n (dk okX11_faints 59 rfl) 0 rfl rfl ?_
      refine J_getR (dk okX11_faints 60 rfl) kfX11_53 ds_0 rfl ?_
      refine J_iload (dk okX11_faints 61 rfl) 5 rfl ?_
      obtain ⟨s3, t⟩ := t
      refine J_callVi (As := [.int x6]) (dk okX11_faints 62 rfl) ds_33 rfl vkX8_total lkX11_369 rfl rfl (Nat.le_of_ble_eq_true rfl) (by decide) (con_X8_total s3 ⟨_, rfl, ?_⟩)
      refine J_if_le (tgt := 155) (dk okX11_faints 63 rfl) (by decide) (fun h4 => ?_) (fun h4 => ?_)
      · refine J_sub (ls' := [(0, _), (1, _), (2, _), (3, _), (4, _), (6, _)]) [0, 1, 2, 3, 4, 5] rfl ?_
        (try simp only [if_pos h2, if_pos h4] at K7 ⊢); exact K7
      · have t := t h4
        refine J_iload (dk okX11_faints 64 rfl) 5 rfl ?_
        refine J_callSi (As := [.int x6]) (dk okX11_faints 65 rfl) skJ6_bitCount_0f7a4 lkX11_206 rfl rfl (Nat.le_of_ble_eq_true rfl) (by decide) (con_J6_bitCount_0f7a4  ⟨_, rfl, ?_⟩)
        refine J_istore (ls' := [(7, _), (0, _), (1, _), (2, _), (3, _), (4, _), (6, _)]) (dk okX11_faints 66 rfl) (by decide) rfl ?_
        refine J_lload (dk okX11_faints 67 rfl) 5 rfl ?_
        refine J_iload_n (dk okX11_faints 68 rfl) 2 rfl rfl ?_
        refine J_iload (dk okX11_faints 69 rfl) 0 rfl ?_
        obtain ⟨s5, t⟩ := t
        refine J_callSl (As := [.int x1, .int (v_J6_bitCount_0f7a4 x6)]) (dk okX11_faints 70 rfl) skX11_raised lkX11_372 rfl rfl (Nat.le_of_ble_eq_true rfl) (by decide) (con_X11_raised s5 ⟨_, rfl, ?_⟩)
        refine J_bipush (v := 10) (dk okX11_faints 71 rfl) (by decide) ?_
        refine J_iload_n (dk okX11_faints 72 rfl) 2 rfl rfl ?_
        refine J_isub (dk okX11_faints 73 rfl) ?_
        refine J_iload_n (dk okX11_faints 74 rfl) 4 rfl rfl ?_
        refine J_iload (dk okX11_faints 75 rfl) 0 rfl ?_
        refine J_isub (dk okX11_faints 76 rfl) ?_
        have s6 := t
        refine J_callSl (As := [.int (10 - x1), .int (x3 - (v_J6_bitCount_0f7a4 x6))]) (dk okX11_faints 77 rfl) skX11_raised lkX11_372 rfl rfl (Nat.le_of_ble_eq_true rfl) (by decide) (con_X11_raised s6 ⟨_, rfl, ?_⟩)
        refine J_lmul (dk okX11_faints 78 rfl) ?_
        refine J_ladd (dk okX11_faints 79 rfl) ?_
        refine J_lstore (ls' := [(4, _), (7, _), (0, _), (1, _), (2, _), (3, _), (6, _)]) (dk okX11_faints 80 rfl) (by decide) rfl ?_
        refine J_sub (ls' := [(0, _), (1, _), (2, _), (3, _), (4, _), (6, _)]) [2, 3, 4, 5, 0, 6] rfl ?_
        (try simp only [if_pos h2, if_neg h4] at K7 ⊢); exact K7
/-- VotingFloor.faints(I)I -/
noncomputable def v_X11_faints (p0 : Int32) : Int32 := (if p0 < 0 then (-1) else (if p0 ≤ 10 then 0 else (-1)))
noncomputable def e_X11_faints (p0 : Int32) (μ : Mm) : Mm := (if p0 < 0 then μ else (if p0 ≤ 10 then (let μ4 : Mm := (e_X8_start (v_X1_present 1 μ) (v_X1_moment 1 μ) μ); (let r6 : Int32 × Int32 × Int32 × Mm := whl (fun s : Int32 × Int32 × Int32 × Int32 × Mm => bd_X11_faints_43  s.1 s.2.1 s.2.2.1 s.2.2.2.1 s.2.2.2.2) (fun s : Int32 × Int32 × Int32 × Int32 × Mm => (0, 0, 0, s.2.2.2.2)) FU (p0, (v_X1_present 1 μ), (v_J6_bitCount_0f7a4 (v_X1_present 1 μ)), 0, μ4); (let r8 : Int32 × Int64 := whl (fun s : Int32 × Int32 × Int32 × Int64 × Int32 => bd_X11_faints_98  (r6.2.2.2) s.1 s.2.1 s.2.2.1 s.2.2.2.1 s.2.2.2.2) (fun _ : Int32 × Int32 × Int32 × Int64 × Int32 => (0, 0)) FU ((r6.1), (r6.2.1), (r6.2.2.1), 0, 0); (let μ11 : Mm := (e_X11_tellFraction (r8.2) (v_X11_raised 10 (r8.1) (r6.2.2.2)) (r6.2.2.2)); μ11)))) else μ))
def p_X11_faints (p0 : Int32)  (μ : Mm) : Prop := (¬ (p0 < 0) → (p0 ≤ 10 → (p_X1_moment 1 μ) ∧ (∀ μ4 : Mm, μ4 = (e_X8_start (v_X1_present 1 μ) (v_X1_moment 1 μ) μ) → (whP (fun s : Int32 × Int32 × Int32 × Int32 × Mm => bd_X11_faints_43  s.1 s.2.1 s.2.2.1 s.2.2.2.1 s.2.2.2.2) (fun s : Int32 × Int32 × Int32 × Int32 × Mm => sd_X11_faints_43   s.1 s.2.1 s.2.2.1 s.2.2.2.1 s.2.2.2.2) FU (p0, (v_X1_present 1 μ), (v_J6_bitCount_0f7a4 (v_X1_present 1 μ)), 0, μ4)) ∧ (∀ r6 : Int32 × Int32 × Int32 × Mm, r6 = whl (fun s : Int32 × Int32 × Int32 × Int32 × Mm => bd_X11_faints_43  s.1 s.2.1 s.2.2.1 s.2.2.2.1 s.2.2.2.2) (fun s : Int32 × Int32 × Int32 × Int32 × Mm => (0, 0, 0, s.2.2.2.2)) FU (p0, (v_X1_present 1 μ), (v_J6_bitCount_0f7a4 (v_X1_present 1 μ)), 0, μ4) → (whP (fun s : Int32 × Int32 × Int32 × Int64 × Int32 => bd_X11_faints_98  (r6.2.2.2) s.1 s.2.1 s.2.2.1 s.2.2.2.1 s.2.2.2.2) (fun s : Int32 × Int32 × Int32 × Int64 × Int32 => sd_X11_faints_98   (r6.2.2.2) s.1 s.2.1 s.2.2.1 s.2.2.2.1 s.2.2.2.2) FU ((r6.1), (r6.2.1), (r6.2.2.1), 0, 0)) ∧ (∀ r8 : Int32 × Int64, r8 = whl (fun s : Int32 × Int32 × Int32 × Int64 × Int32 => bd_X11_faints_98  (r6.2.2.2) s.1 s.2.1 s.2.2.1 s.2.2.2.1 s.2.2.2.2) (fun _ : Int32 × Int32 × Int32 × Int64 × Int32 => (0, 0)) FU ((r6.1), (r6.2.1), (r6.2.2.1), 0, 0) → (p_X11_raised 10 (r8.1) (r6.2.2.2)) ∧ p_X11_tellFraction (r8.2) (v_X11_raised 10 (r8.1) (r6.2.2.2)) (r6.2.2.2))))))
set_option maxRecDepth 20000 in
set_option maxHeartbeats 4000000 in
theorem con_X11_faints {E : Ex} {Q : Option Value → Mm → Prop} {p0 : Int32} {μ : Mm} (t : p_X11_faints p0  μ) (k : Q (some (.int (v_X11_faints p0))) (e_X11_faints p0 μ)) : Con E 3 mX11_faints [rf E 0, .int p0] μ Q := by
  refine Con_J (by decide +kernel) (Nat.le_of_ble_eq_true rfl) (fun G => ?_)
  unfold v_X11_faints e_X11_faints at k
  unfold p_X11_faints at t
  refine J_sub (ls' := [(0, rf E 0), (1, .int p0)]) [0, 1] rfl ?_
  refine J_iload_n (dk okX11_faints 0 rfl) 1 rfl rfl ?_
  refine J_if_lt (tgt := 10) (dk okX11_faints 1 rfl) (by decide) (fun h1 => ?_) (fun h1 => ?_)
  · refine J_iconst (v := (-1)) (dk okX11_faints 5 rfl) (by decide) ?_
    (try simp only [if_pos h1] at k ⊢)
    exact J_iret (dk okX11_faints 6 rfl) rfl k
  · have t := t h1
    refine J_iload_n (dk okX11_faints 2 rfl) 1 rfl rfl ?_
    refine J_bipush (v := 10) (dk okX11_faints 3 rfl) (by decide) ?_
    refine J_icmp_le (tgt := 12) (dk okX11_faints 4 rfl) (by decide) (fun h2 => ?_) (fun h2 => ?_)
    · have t := t h2
      refine J_aload_n (dk okX11_faints 7 rfl) 0 rfl rfl ?_
      refine J_getR (dk okX11_faints 8 rfl) kfX11_12 ds_0 rfl ?_
      refine J_callVi (As := []) (dk okX11_faints 9 rfl) ds_1 rfl vkX1_present lkX11_271 rfl rfl (Nat.le_of_ble_eq_true rfl) (by decide) (con_X1_present FloorAt_1 ⟨_, rfl, ?_⟩)
      refine J_istore_n (ls' := [(2, _), (0, _), (1, _)]) (dk okX11_faints 10 rfl) rfl (by decide) rfl ?_
      refine J_iload_n (dk okX11_faints 11 rfl) 0 rfl rfl ?_
      refine J_callSi (As := [.int (v_X1_present 1 μ)]) (dk okX11_faints 12 rfl) skJ6_bitCount_0f7a4 lkX11_206 rfl rfl (Nat.le_of_ble_eq_true rfl) (by decide) (con_J6_bitCount_0f7a4  ⟨_, rfl, ?_⟩)
      refine J_istore_n (ls' := [(3, _), (2, _), (0, _), (1, _)]) (dk okX11_faints 13 rfl) rfl (by decide) rfl ?_
      refine J_aload_n (dk okX11_faints 14 rfl) 2 rfl rfl ?_
      refine J_getR (dk okX11_faints 15 rfl) kfX11_53 ds_0 rfl ?_
      refine J_iload_n (dk okX11_faints 16 rfl) 1 rfl rfl ?_
      refine J_aload_n (dk okX11_faints 17 rfl) 2 rfl rfl ?_
      refine J_getR (dk okX11_faints 18 rfl) kfX11_12 ds_0 rfl ?_
      obtain ⟨s3, t⟩ := t
      refine J_callVi (As := []) (dk okX11_faints 19 rfl) ds_1 rfl vkX1_moment lkX11_163 rfl rfl (Nat.le_of_ble_eq_true rfl) (by decide) (con_X1_moment FloorAt_1 s3 ⟨_, rfl, ?_⟩)
      refine J_callVv (As := [.int (v_X1_present 1 μ), .int (v_X1_moment 1 μ)]) (dk okX11_faints 20 rfl) ds_33 rfl vkX8_start lkX11_288 rfl rfl (Nat.le_of_ble_eq_true rfl) (by decide) (con_X8_start  ⟨rfl, ?_⟩)
      refine J_nm (fun μ4 eμ4 => ?_)
      have t := t μ4 eμ4
      refine J_iconst (v := 0) (dk okX11_faints 21 rfl) (by decide) ?_
      refine J_istore (ls' := [(4, _), (3, _), (2, _), (0, _), (1, _)]) (dk okX11_faints 22 rfl) (by decide) rfl ?_
      obtain ⟨s5, t⟩ := t
      refine J_sub (ls' := [(0, _), (1, _), (2, _), (3, _), (4, _)]) [3, 4, 2, 1, 0] rfl ?_
      refine lw_X11_faints_43  s5 (fun r6 er6 => ?_)
      have t := t r6 er6
      refine J_lconst (v := 0) (dk okX11_faints 46 rfl) (by decide) ?_
      refine J_lstore (ls' := [(4, _), (0, _), (1, _), (2, _), (3, _)]) (dk okX11_faints 47 rfl) (by decide) rfl ?_
      refine J_iconst (v := 0) (dk okX11_faints 48 rfl) (by decide) ?_
      refine J_istore (ls' := [(6, _), (4, _), (0, _), (1, _), (2, _), (3, _)]) (dk okX11_faints 49 rfl) (by decide) rfl ?_
      obtain ⟨s7, t⟩ := t
      refine J_sub (ls' := [(0, _), (1, _), (2, _), (3, _), (4, _), (6, _)]) [2, 3, 4, 5, 1, 0] rfl ?_
      refine lw_X11_faints_98  s7 (fun r8 er8 => ?_)
      have t := t r8 er8
      refine J_aload_n (dk okX11_faints 83 rfl) 0 rfl rfl ?_
      refine J_lload (dk okX11_faints 84 rfl) 2 rfl ?_
      refine J_bipush (v := 10) (dk okX11_faints 85 rfl) (by decide) ?_
      refine J_iload_n (dk okX11_faints 86 rfl) 1 rfl rfl ?_
      obtain ⟨s9, t⟩ := t
      refine J_callSl (As := [.int 10, .int (r8.1)]) (dk okX11_faints 87 rfl) skX11_raised lkX11_372 rfl rfl (Nat.le_of_ble_eq_true rfl) (by decide) (con_X11_raised s9 ⟨_, rfl, ?_⟩)
      have s10 := t
      refine J_callVv (As := [.long (r8.2), .long (v_X11_raised 10 (r8.1) (r6.2.2.2))]) (dk okX11_faints 88 rfl) ds_0 rfl vkX11_tellFraction lkX11_311 rfl rfl (Nat.le_of_ble_eq_true rfl) (by decide) (con_X11_tellFraction s10 ⟨rfl, ?_⟩)
      refine J_nm (fun μ11 eμ11 => ?_)
      refine J_iconst (v := 0) (dk okX11_faints 89 rfl) (by decide) ?_
      subst eμ11 er8 er6 eμ4
      (try simp only [if_neg h1, if_pos h2] at k ⊢)
      exact J_iret (dk okX11_faints 90 rfl) rfl k
    · refine J_iconst (v := (-1)) (dk okX11_faints 5 rfl) (by decide) ?_
      (try simp only [if_neg h1, if_neg h2] at k ⊢)
      exact J_iret (dk okX11_faints 6 rfl) rfl k
/-- VotingFloor.keep(I)Z -/
noncomputable def v_X11_keep (p0 : Int32) : Int32 := (v_X3_shelve p0 1)
noncomputable def e_X11_keep (p0 : Int32) (μ : Mm) : Mm := (let μ2 : Mm := (e_X3_shelve p0 1 μ); μ2)
def p_X11_keep (p0 : Int32)  (μ : Mm) : Prop := p_X3_shelve p0 1 μ
set_option maxRecDepth 20000 in
set_option maxHeartbeats 4000000 in
theorem con_X11_keep {E : Ex} {Q : Option Value → Mm → Prop} {p0 : Int32} {μ : Mm} (t : p_X11_keep p0  μ) (k : Q (some (.int (v_X11_keep p0))) (e_X11_keep p0 μ)) : Con E 3 mX11_keep [rf E 0, .int p0] μ Q := by
  refine Con_J (by decide +kernel) (Nat.le_of_ble_eq_true rfl) (fun G => ?_)
  unfold v_X11_keep e_X11_keep at k
  unfold p_X11_keep at t
  refine J_sub (ls' := [(0, rf E 0), (1, .int p0)]) [0, 1] rfl ?_
  refine J_aload_n (dk okX11_keep 0 rfl) 0 rfl rfl ?_
  refine J_getR (dk okX11_keep 1 rfl) kfX11_46 ds_0 rfl ?_
  refine J_iload_n (dk okX11_keep 2 rfl) 1 rfl rfl ?_
  refine J_aload_n (dk okX11_keep 3 rfl) 0 rfl rfl ?_
  refine J_getR (dk okX11_keep 4 rfl) kfX11_12 ds_0 rfl ?_
  have s1 := t
  refine J_callVi (As := [.int p0, rf E 1]) (dk okX11_keep 5 rfl) ds_29 rfl vkX3_shelve lkX11_394 rfl rfl (Nat.le_of_ble_eq_true rfl) (by decide) (con_X3_shelve FloorAt_1 s1 ⟨_, rfl, ?_⟩)
  refine J_nm (fun μ2 eμ2 => ?_)
  subst eμ2
  exact J_zret (dk okX11_keep 6 rfl) rfl (nb_X3_shelve _ _) k
noncomputable def bd_X11_line_27  (x1 : Int32) (x2 : Int32) (x3 : Int32) (μ : Mm) : (Int32 × Int32 × Int32 × Mm) ⊕ (Int32 × Mm) := (if (μ.1 1 0) ≤ x3 then .inr (x1, μ) else (let μ5 : Mm := (if (v_X11_isIn x2 x3) = 0 then μ else ((e_X10_add (Int32.toInt64 x3) μ)) : Mm); .inl (x1, x2, (x3 + 1), μ5)))
def sd_X11_line_27   (x1 : Int32) (x2 : Int32) (x3 : Int32) (μ : Mm) : Prop := (¬ ((μ.1 1 0) ≤ x3) → (¬ ((v_X11_isIn x2 x3) = 0) → p_X10_add (Int32.toInt64 x3) μ))
set_option maxRecDepth 20000 in
set_option maxHeartbeats 4000000 in
theorem lw_X11_line_27 {E : Ex} {G : Gx} {Q : Option Value → Mm → Prop} {x1 : Int32} {x2 : Int32} {x3 : Int32} {μ : Mm}  (p : whP (fun s : Int32 × Int32 × Int32 × Mm => bd_X11_line_27  s.1 s.2.1 s.2.2.1 s.2.2.2) (fun s : Int32 × Int32 × Int32 × Mm => sd_X11_line_27   s.1 s.2.1 s.2.2.1 s.2.2.2) FU (x1, x2, x3, μ)) (k : ∀ r : Int32 × Mm, r = whl (fun s : Int32 × Int32 × Int32 × Mm => bd_X11_line_27  s.1 s.2.1 s.2.2.1 s.2.2.2) (fun s : Int32 × Int32 × Int32 × Mm => (0, s.2.2.2)) FU (x1, x2, x3, μ) → J E G 3 mX11_line Q 61 [(0, rf E 0), (1, .int (r.1))] [] (r.2)) : J E G 3 mX11_line Q 27 [(0, rf E 0), (1, .int x1), (2, .int x2), (3, .int x3)] [] μ := by
  refine J_whl (f := (fun s : Int32 × Int32 × Int32 × Mm => bd_X11_line_27  s.1 s.2.1 s.2.2.1 s.2.2.2)) (dd := (fun s : Int32 × Int32 × Int32 × Mm => (0, s.2.2.2))) (sd := (fun s : Int32 × Int32 × Int32 × Mm => sd_X11_line_27   s.1 s.2.1 s.2.2.1 s.2.2.2)) (P := fun s : Int32 × Int32 × Int32 × Mm => J E G 3 mX11_line Q 27 [(0, rf E 0), (1, .int (s.1)), (2, .int (s.2.1)), (3, .int (s.2.2.1))] [] (s.2.2.2)) (R := fun r : Int32 × Mm => J E G 3 mX11_line Q 61 [(0, rf E 0), (1, .int (r.1))] [] (r.2)) ?_ FU (x1, x2, x3, μ) p (k _ rfl)
  clear p k
  rintro ⟨x1, x2, x3, μ⟩ t k1 k2
  dsimp only [sd_X11_line_27] at t
  have kb : ∀ (y1 : Int32) (y2 : Int32) (y3 : Int32) (μ9 : Mm), bd_X11_line_27  x1 x2 x3 μ = .inl (y1, y2, y3, μ9) → J E G 3 mX11_line Q 27 [(0, rf E 0), (1, .int y1), (2, .int y2), (3, .int y3)] [] μ9 := fun y1 y2 y3 μ9 h => k1 (y1, y2, y3, μ9) h
  have kx : ∀ (y1 : Int32) (μ9 : Mm), bd_X11_line_27  x1 x2 x3 μ = .inr (y1, μ9) → J E G 3 mX11_line Q 61 [(0, rf E 0), (1, .int y1)] [] μ9 := fun y1 μ9 h => k2 (y1, μ9) h
  clear k1 k2
  refine J_iload_n (dk okX11_line 15 rfl) 3 rfl rfl ?_
  refine J_aload_n (dk okX11_line 16 rfl) 0 rfl rfl ?_
  refine J_getR (dk okX11_line 17 rfl) kfX11_12 ds_0 rfl ?_
  refine J_getI (dk okX11_line 18 rfl) kfX11_106 ds_1 rfl ?_
  refine J_icmp_ge (tgt := 61) (dk okX11_line 19 rfl) (by decide) (fun h1 => ?_) (fun h1 => ?_)
  · exact J_sub [0, 1] rfl (kx x1 μ (by unfold bd_X11_line_27; first | (simp only [if_pos h1]; done) | (simp only [if_pos h1]; rfl) | rfl))
  · have t := t h1
    refine J_iload_n (dk okX11_line 20 rfl) 2 rfl rfl ?_
    refine J_iload_n (dk okX11_line 21 rfl) 3 rfl rfl ?_
    refine J_callSi (As := [.int x2, .int x3]) (dk okX11_line 22 rfl) skX11_isIn lkX11_324 rfl rfl (Nat.le_of_ble_eq_true rfl) (by decide) (con_X11_isIn  ⟨_, rfl, ?_⟩)
    have K6 : J E G 3 mX11_line Q 55 [(0, rf E 0), (1, .int x1), (2, .int x2), (3, .int x3)] [] (if (v_X11_isIn x2 x3) = 0 then μ else ((e_X10_add (Int32.toInt64 x3) μ)) : Mm) := by
      refine J_nm (fun μ5 eμ5 => ?_)
      refine J_iinc (v := (x3 + 1)) (ls' := [(3, _), (0, _), (1, _), (2, _)]) (dk okX11_line 29 rfl) 3 rfl rfl (by decide) rfl ?_
      refine J_goto (tgt := 27) (dk okX11_line 30 rfl) (by decide) ?_
      exact J_sub [1, 2, 3, 0] rfl (kb x1 x2 (x3 + 1) μ5 (by subst eμ5; unfold bd_X11_line_27; first | (simp only [if_neg h1]; done) | (simp only [if_neg h1]; rfl) | rfl))
    refine J_if_eq (tgt := 55) (dk okX11_line 23 rfl) (by decide) (fun h2 => ?_) (fun h2 => ?_)
    · refine J_sub (ls' := [(0, _), (1, _), (2, _), (3, _)]) [0, 1, 2, 3] rfl ?_
      (try simp only [if_pos h2] at K6 ⊢); exact K6
    · have t := t h2
      refine J_aload_n (dk okX11_line 24 rfl) 0 rfl rfl ?_
      refine J_getR (dk okX11_line 25 rfl) kfX11_39 ds_0 rfl ?_
      refine J_iload_n (dk okX11_line 26 rfl) 3 rfl rfl ?_
      refine J_i2l (dk okX11_line 27 rfl) ?_
      have s3 := t
      refine J_callVv (As := [.long (Int32.toInt64 x3)]) (dk okX11_line 28 rfl) ds_27 rfl vkX10_add lkX11_199 rfl rfl (Nat.le_of_ble_eq_true rfl) (by decide) (con_X10_add s3 ⟨rfl, ?_⟩)
      refine J_nm (fun μ4 eμ4 => ?_)
      subst eμ4
      refine J_sub (ls' := [(0, _), (1, _), (2, _), (3, _)]) [0, 1, 2, 3] rfl ?_
      (try simp only [if_neg h2] at K6 ⊢); exact K6
noncomputable def bd_X11_line_10  (x1 : Int32) (μ : Mm) : (Int32 × Mm) ⊕ (Mm) := (if 9 < x1 then .inr μ else (let r4 : Int32 × Mm := whl (fun s : Int32 × Int32 × Int32 × Mm => bd_X11_line_27  s.1 s.2.1 s.2.2.1 s.2.2.2) (fun s : Int32 × Int32 × Int32 × Mm => (0, s.2.2.2)) FU (x1, (v_X1_standingOn 1 x1 μ), 0, μ); .inl (((r4.1) + 1), (r4.2))))
def sd_X11_line_10   (x1 : Int32) (μ : Mm) : Prop := (¬ (9 < x1) → (p_X1_standingOn 1 x1 μ) ∧ whP (fun s : Int32 × Int32 × Int32 × Mm => bd_X11_line_27  s.1 s.2.1 s.2.2.1 s.2.2.2) (fun s : Int32 × Int32 × Int32 × Mm => sd_X11_line_27   s.1 s.2.1 s.2.2.1 s.2.2.2) FU (x1, (v_X1_standingOn 1 x1 μ), 0, μ))
set_option maxRecDepth 20000 in
set_option maxHeartbeats 4000000 in
theorem lw_X11_line_10 {E : Ex} {G : Gx} {Q : Option Value → Mm → Prop} {x1 : Int32} {μ : Mm}  (p : whP (fun s : Int32 × Mm => bd_X11_line_10  s.1 s.2) (fun s : Int32 × Mm => sd_X11_line_10   s.1 s.2) FU (x1, μ)) (k : ∀ r : Mm, r = whl (fun s : Int32 × Mm => bd_X11_line_10  s.1 s.2) (fun s : Int32 × Mm => s.2) FU (x1, μ) → J E G 3 mX11_line Q 67 [(0, rf E 0)] [] r) : J E G 3 mX11_line Q 10 [(0, rf E 0), (1, .int x1)] [] μ := by
  refine J_whl (f := (fun s : Int32 × Mm => bd_X11_line_10  s.1 s.2)) (dd := (fun s : Int32 × Mm => s.2)) (sd := (fun s : Int32 × Mm => sd_X11_line_10   s.1 s.2)) (P := fun s : Int32 × Mm => J E G 3 mX11_line Q 10 [(0, rf E 0), (1, .int (s.1))] [] (s.2)) (R := fun r : Mm => J E G 3 mX11_line Q 67 [(0, rf E 0)] [] r) ?_ FU (x1, μ) p (k _ rfl)
  clear p k
  rintro ⟨x1, μ⟩ t k1 k2
  dsimp only [sd_X11_line_10] at t
  have kb : ∀ (y1 : Int32) (μ9 : Mm), bd_X11_line_10  x1 μ = .inl (y1, μ9) → J E G 3 mX11_line Q 10 [(0, rf E 0), (1, .int y1)] [] μ9 := fun y1 μ9 h => k1 (y1, μ9) h
  have kx : ∀  (μ9 : Mm), bd_X11_line_10  x1 μ = .inr μ9 → J E G 3 mX11_line Q 67 [(0, rf E 0)] [] μ9 := fun  μ9 h => k2 μ9 h
  clear k1 k2
  refine J_iload_n (dk okX11_line 5 rfl) 1 rfl rfl ?_
  refine J_bipush (v := 9) (dk okX11_line 6 rfl) (by decide) ?_
  refine J_icmp_gt (tgt := 67) (dk okX11_line 7 rfl) (by decide) (fun h1 => ?_) (fun h1 => ?_)
  · exact J_sub [0] rfl (kx μ (by unfold bd_X11_line_10; first | (simp only [if_pos h1]; done) | (simp only [if_pos h1]; rfl) | rfl))
  · have t := t h1
    refine J_aload_n (dk okX11_line 8 rfl) 0 rfl rfl ?_
    refine J_getR (dk okX11_line 9 rfl) kfX11_12 ds_0 rfl ?_
    refine J_iload_n (dk okX11_line 10 rfl) 1 rfl rfl ?_
    obtain ⟨s2, t⟩ := t
    refine J_callVi (As := [.int x1]) (dk okX11_line 11 rfl) ds_1 rfl vkX1_standingOn lkX11_203 rfl rfl (Nat.le_of_ble_eq_true rfl) (by decide) (con_X1_standingOn FloorAt_1 s2 ⟨_, rfl, ?_⟩)
    refine J_istore_n (ls' := [(2, _), (0, _), (1, _)]) (dk okX11_line 12 rfl) rfl (by decide) rfl ?_
    refine J_iconst (v := 0) (dk okX11_line 13 rfl) (by decide) ?_
    refine J_istore_n (ls' := [(3, _), (2, _), (0, _), (1, _)]) (dk okX11_line 14 rfl) rfl (by decide) rfl ?_
    have s3 := t
    refine J_sub (ls' := [(0, _), (1, _), (2, _), (3, _)]) [2, 3, 1, 0] rfl ?_
    refine lw_X11_line_27  s3 (fun r4 er4 => ?_)
    refine J_iinc (v := ((r4.1) + 1)) (ls' := [(1, _), (0, _)]) (dk okX11_line 31 rfl) 1 rfl rfl (by decide) rfl ?_
    refine J_goto (tgt := 10) (dk okX11_line 32 rfl) (by decide) ?_
    exact J_sub [1, 0] rfl (kb ((r4.1) + 1) (r4.2) (by subst er4; unfold bd_X11_line_10; first | (simp only [if_neg h1]; done) | (simp only [if_neg h1]; rfl) | rfl))
/-- VotingFloor.line()I -/
noncomputable def v_X11_line  (μ : Mm) : Int32 := (let μ1 : Mm := (e_X10_begin  μ); (let r3 : Mm := whl (fun s : Int32 × Mm => bd_X11_line_10  s.1 s.2) (fun s : Int32 × Mm => s.2) FU ((-9), μ1); (r3.1 27 1)))
noncomputable def e_X11_line  (μ : Mm) : Mm := (let μ1 : Mm := (e_X10_begin  μ); (let r3 : Mm := whl (fun s : Int32 × Mm => bd_X11_line_10  s.1 s.2) (fun s : Int32 × Mm => s.2) FU ((-9), μ1); r3))
def p_X11_line   (μ : Mm) : Prop := (∀ μ1 : Mm, μ1 = (e_X10_begin  μ) → whP (fun s : Int32 × Mm => bd_X11_line_10  s.1 s.2) (fun s : Int32 × Mm => sd_X11_line_10   s.1 s.2) FU ((-9), μ1))
set_option maxRecDepth 20000 in
set_option maxHeartbeats 4000000 in
theorem con_X11_line {E : Ex} {Q : Option Value → Mm → Prop} {μ : Mm} (t : p_X11_line   μ) (k : Q (some (.int (v_X11_line  μ))) (e_X11_line  μ)) : Con E 3 mX11_line [rf E 0] μ Q := by
  refine Con_J (by decide +kernel) (Nat.le_of_ble_eq_true rfl) (fun G => ?_)
  unfold v_X11_line e_X11_line at k
  unfold p_X11_line at t
  refine J_sub (ls' := [(0, rf E 0)]) [0] rfl ?_
  refine J_aload_n (dk okX11_line 0 rfl) 0 rfl rfl ?_
  refine J_getR (dk okX11_line 1 rfl) kfX11_39 ds_0 rfl ?_
  refine J_callVv (As := []) (dk okX11_line 2 rfl) ds_27 rfl vkX10_begin lkX11_196 rfl rfl (Nat.le_of_ble_eq_true rfl) (by decide) (con_X10_begin  ⟨rfl, ?_⟩)
  refine J_nm (fun μ1 eμ1 => ?_)
  have t := t μ1 eμ1
  refine J_bipush (v := (-9)) (dk okX11_line 3 rfl) (by decide) ?_
  refine J_istore_n (ls' := [(1, _), (0, _)]) (dk okX11_line 4 rfl) rfl (by decide) rfl ?_
  have s2 := t
  refine J_sub (ls' := [(0, _), (1, _)]) [1, 0] rfl ?_
  refine lw_X11_line_10  s2 (fun r3 er3 => ?_)
  refine J_aload_n (dk okX11_line 33 rfl) 0 rfl rfl ?_
  refine J_getR (dk okX11_line 34 rfl) kfX11_39 ds_0 rfl ?_
  refine J_getI (dk okX11_line 35 rfl) kfX11_328 ds_27 rfl ?_
  subst er3 eμ1
  exact J_iret (dk okX11_line 36 rfl) rfl k
noncomputable def bd_X11_plank_40  (x1 : Int32) (x2 : Int32) (x3 : Int32) (x4 : Int32) (μ : Mm) : (Int32 × Int32 × Int32 × Int32 × Mm) ⊕ (Int32 × Int32 × Int32 × Mm) := (if x2 < x4 then .inr (x1, x2, x3, μ) else (let μ7 : Mm := (if (v_X11_winningStride x3 x2 x4 μ) ≤ 0 then μ else ((upI μ 48 (Int32.toNatClampNeg x3) ((μ.1 48 (Int32.toNatClampNeg x3)) ||| (1 <<< (x4 &&& 31))))) : Mm); .inl (x1, x2, x3, (x4 + 1), μ7)))
def sd_X11_plank_40   (x1 : Int32) (x2 : Int32) (x3 : Int32) (x4 : Int32) (μ : Mm) : Prop := (¬ (x2 < x4) → (p_X11_winningStride x3 x2 x4 μ) ∧ (¬ ((v_X11_winningStride x3 x2 x4 μ) ≤ 0) → (vp_in x3 61) ∧ vp_in x3 61))
set_option maxRecDepth 20000 in
set_option maxHeartbeats 4000000 in
theorem lw_X11_plank_40 {E : Ex} {G : Gx} {Q : Option Value → Mm → Prop} {x1 : Int32} {x2 : Int32} {x3 : Int32} {x4 : Int32} {μ : Mm}  (p : whP (fun s : Int32 × Int32 × Int32 × Int32 × Mm => bd_X11_plank_40  s.1 s.2.1 s.2.2.1 s.2.2.2.1 s.2.2.2.2) (fun s : Int32 × Int32 × Int32 × Int32 × Mm => sd_X11_plank_40   s.1 s.2.1 s.2.2.1 s.2.2.2.1 s.2.2.2.2) FU (x1, x2, x3, x4, μ)) (k : ∀ r : Int32 × Int32 × Int32 × Mm, r = whl (fun s : Int32 × Int32 × Int32 × Int32 × Mm => bd_X11_plank_40  s.1 s.2.1 s.2.2.1 s.2.2.2.1 s.2.2.2.2) (fun s : Int32 × Int32 × Int32 × Int32 × Mm => (0, 0, 0, s.2.2.2.2)) FU (x1, x2, x3, x4, μ) → J E G 3 mX11_plank Q 76 [(0, rf E 0), (1, .int (r.1)), (2, .int (r.2.1)), (3, .int (r.2.2.1))] [] (r.2.2.2)) : J E G 3 mX11_plank Q 40 [(0, rf E 0), (1, .int x1), (2, .int x2), (3, .int x3), (4, .int x4)] [] μ := by
  refine J_whl (f := (fun s : Int32 × Int32 × Int32 × Int32 × Mm => bd_X11_plank_40  s.1 s.2.1 s.2.2.1 s.2.2.2.1 s.2.2.2.2)) (dd := (fun s : Int32 × Int32 × Int32 × Int32 × Mm => (0, 0, 0, s.2.2.2.2))) (sd := (fun s : Int32 × Int32 × Int32 × Int32 × Mm => sd_X11_plank_40   s.1 s.2.1 s.2.2.1 s.2.2.2.1 s.2.2.2.2)) (P := fun s : Int32 × Int32 × Int32 × Int32 × Mm => J E G 3 mX11_plank Q 40 [(0, rf E 0), (1, .int (s.1)), (2, .int (s.2.1)), (3, .int (s.2.2.1)), (4, .int (s.2.2.2.1))] [] (s.2.2.2.2)) (R := fun r : Int32 × Int32 × Int32 × Mm => J E G 3 mX11_plank Q 76 [(0, rf E 0), (1, .int (r.1)), (2, .int (r.2.1)), (3, .int (r.2.2.1))] [] (r.2.2.2)) ?_ FU (x1, x2, x3, x4, μ) p (k _ rfl)
  clear p k
  rintro ⟨x1, x2, x3, x4, μ⟩ t k1 k2
  dsimp only [sd_X11_plank_40] at t
  have kb : ∀ (y1 : Int32) (y2 : Int32) (y3 : Int32) (y4 : Int32) (μ9 : Mm), bd_X11_plank_40  x1 x2 x3 x4 μ = .inl (y1, y2, y3, y4, μ9) → J E G 3 mX11_plank Q 40 [(0, rf E 0), (1, .int y1), (2, .int y2), (3, .int y3), (4, .int y4)] [] μ9 := fun y1 y2 y3 y4 μ9 h => k1 (y1, y2, y3, y4, μ9) h
  have kx : ∀ (y1 : Int32) (y2 : Int32) (y3 : Int32) (μ9 : Mm), bd_X11_plank_40  x1 x2 x3 x4 μ = .inr (y1, y2, y3, μ9) → J E G 3 mX11_plank Q 76 [(0, rf E 0), (1, .int y1), (2, .int y2), (3, .int y3)] [] μ9 := fun y1 y2 y3 μ9 h => k2 (y1, y2, y3, μ9) h
  clear k1 k2
  refine J_iload (dk okX11_plank 25 rfl) 4 rfl ?_
  refine J_iload_n (dk okX11_plank 26 rfl) 2 rfl rfl ?_
  refine J_icmp_gt (tgt := 76) (dk okX11_plank 27 rfl) (by decide) (fun h1 => ?_) (fun h1 => ?_)
  · exact J_sub [0, 1, 2, 3] rfl (kx x1 x2 x3 μ (by unfold bd_X11_plank_40; first | (simp only [if_pos h1]; done) | (simp only [if_pos h1]; rfl) | rfl))
  · have t := t h1
    refine J_aload_n (dk okX11_plank 28 rfl) 0 rfl rfl ?_
    refine J_iload_n (dk okX11_plank 29 rfl) 3 rfl rfl ?_
    refine J_iload_n (dk okX11_plank 30 rfl) 2 rfl rfl ?_
    refine J_iload (dk okX11_plank 31 rfl) 4 rfl ?_
    obtain ⟨s2, t⟩ := t
    refine J_callVi (As := [.int x3, .int x2, .int x4]) (dk okX11_plank 32 rfl) ds_0 rfl vkX11_winningStride lkX11_376 rfl rfl (Nat.le_of_ble_eq_true rfl) (by decide) (con_X11_winningStride s2 ⟨_, rfl, ?_⟩)
    have K8 : J E G 3 mX11_plank Q 70 [(0, rf E 0), (1, .int x1), (2, .int x2), (3, .int x3), (4, .int x4)] [] (if (v_X11_winningStride x3 x2 x4 μ) ≤ 0 then μ else ((upI μ 48 (Int32.toNatClampNeg x3) ((μ.1 48 (Int32.toNatClampNeg x3)) ||| (1 <<< (x4 &&& 31))))) : Mm) := by
      refine J_nm (fun μ7 eμ7 => ?_)
      refine J_iinc (v := (x4 + 1)) (ls' := [(4, _), (0, _), (1, _), (2, _), (3, _)]) (dk okX11_plank 44 rfl) 4 rfl rfl (by decide) rfl ?_
      refine J_goto (tgt := 40) (dk okX11_plank 45 rfl) (by decide) ?_
      exact J_sub [1, 2, 3, 4, 0] rfl (kb x1 x2 x3 (x4 + 1) μ7 (by subst eμ7; unfold bd_X11_plank_40; first | (simp only [if_neg h1]; done) | (simp only [if_neg h1]; rfl) | rfl))
    refine J_if_le (tgt := 70) (dk okX11_plank 33 rfl) (by decide) (fun h3 => ?_) (fun h3 => ?_)
    · refine J_sub (ls' := [(0, _), (1, _), (2, _), (3, _), (4, _)]) [0, 1, 2, 3, 4] rfl ?_
      (try simp only [if_pos h3] at K8 ⊢); exact K8
    · have t := t h3
      refine J_aload_n (dk okX11_plank 34 rfl) 0 rfl rfl ?_
      refine J_getR (dk okX11_plank 35 rfl) kfX11_92 ds_0 rfl ?_
      refine J_iload_n (dk okX11_plank 36 rfl) 3 rfl rfl ?_
      refine J_dup2 (dk okX11_plank 37 rfl) rfl rfl ?_
      obtain ⟨s4, t⟩ := t
      refine J_iald (dk okX11_plank 38 rfl) ds_48 s4 ?_
      refine J_iconst (v := 1) (dk okX11_plank 39 rfl) (by decide) ?_
      refine J_iload (dk okX11_plank 40 rfl) 4 rfl ?_
      refine J_ishl (dk okX11_plank 41 rfl) ?_
      refine J_ior (dk okX11_plank 42 rfl) ?_
      have s5 := t
      refine J_iast (dk okX11_plank 43 rfl) ds_48 s5 ?_
      refine J_nm (fun μ6 eμ6 => ?_)
      subst eμ6
      refine J_sub (ls' := [(0, _), (1, _), (2, _), (3, _), (4, _)]) [0, 1, 2, 3, 4] rfl ?_
      (try simp only [if_neg h3] at K8 ⊢); exact K8
noncomputable def bd_X11_plank_25  (x1 : Int32) (x2 : Int32) (x3 : Int32) (μ : Mm) : (Int32 × Int32 × Int32 × Mm) ⊕ (Int32 × Int32 × Mm) := (if x1 < x3 then .inr (x1, x2, μ) else (let μ3 : Mm := (upI μ 48 (Int32.toNatClampNeg x3) 0); (let r5 : Int32 × Int32 × Int32 × Mm := whl (fun s : Int32 × Int32 × Int32 × Int32 × Mm => bd_X11_plank_40  s.1 s.2.1 s.2.2.1 s.2.2.2.1 s.2.2.2.2) (fun s : Int32 × Int32 × Int32 × Int32 × Mm => (0, 0, 0, s.2.2.2.2)) FU (x1, x2, x3, 0, μ3); .inl ((r5.1), (r5.2.1), ((r5.2.2.1) + 1), (r5.2.2.2)))))
def sd_X11_plank_25   (x1 : Int32) (x2 : Int32) (x3 : Int32) (μ : Mm) : Prop := (¬ (x1 < x3) → (vp_in x3 61) ∧ (∀ μ3 : Mm, μ3 = (upI μ 48 (Int32.toNatClampNeg x3) 0) → whP (fun s : Int32 × Int32 × Int32 × Int32 × Mm => bd_X11_plank_40  s.1 s.2.1 s.2.2.1 s.2.2.2.1 s.2.2.2.2) (fun s : Int32 × Int32 × Int32 × Int32 × Mm => sd_X11_plank_40   s.1 s.2.1 s.2.2.1 s.2.2.2.1 s.2.2.2.2) FU (x1, x2, x3, 0, μ3)))
set_option maxRecDepth 20000 in
set_option maxHeartbeats 4000000 in
theorem lw_X11_plank_25 {E : Ex} {G : Gx} {Q : Option Value → Mm → Prop} {x1 : Int32} {x2 : Int32} {x3 : Int32} {μ : Mm}  (p : whP (fun s : Int32 × Int32 × Int32 × Mm => bd_X11_plank_25  s.1 s.2.1 s.2.2.1 s.2.2.2) (fun s : Int32 × Int32 × Int32 × Mm => sd_X11_plank_25   s.1 s.2.1 s.2.2.1 s.2.2.2) FU (x1, x2, x3, μ)) (k : ∀ r : Int32 × Int32 × Mm, r = whl (fun s : Int32 × Int32 × Int32 × Mm => bd_X11_plank_25  s.1 s.2.1 s.2.2.1 s.2.2.2) (fun s : Int32 × Int32 × Int32 × Mm => (0, 0, s.2.2.2)) FU (x1, x2, x3, μ) → J E G 3 mX11_plank Q 82 [(0, rf E 0), (1, .int (r.1)), (2, .int (r.2.1))] [] (r.2.2)) : J E G 3 mX11_plank Q 25 [(0, rf E 0), (1, .int x1), (2, .int x2), (3, .int x3)] [] μ := by
  refine J_whl (f := (fun s : Int32 × Int32 × Int32 × Mm => bd_X11_plank_25  s.1 s.2.1 s.2.2.1 s.2.2.2)) (dd := (fun s : Int32 × Int32 × Int32 × Mm => (0, 0, s.2.2.2))) (sd := (fun s : Int32 × Int32 × Int32 × Mm => sd_X11_plank_25   s.1 s.2.1 s.2.2.1 s.2.2.2)) (P := fun s : Int32 × Int32 × Int32 × Mm => J E G 3 mX11_plank Q 25 [(0, rf E 0), (1, .int (s.1)), (2, .int (s.2.1)), (3, .int (s.2.2.1))] [] (s.2.2.2)) (R := fun r : Int32 × Int32 × Mm => J E G 3 mX11_plank Q 82 [(0, rf E 0), (1, .int (r.1)), (2, .int (r.2.1))] [] (r.2.2)) ?_ FU (x1, x2, x3, μ) p (k _ rfl)
  clear p k
  rintro ⟨x1, x2, x3, μ⟩ t k1 k2
  dsimp only [sd_X11_plank_25] at t
  have kb : ∀ (y1 : Int32) (y2 : Int32) (y3 : Int32) (μ9 : Mm), bd_X11_plank_25  x1 x2 x3 μ = .inl (y1, y2, y3, μ9) → J E G 3 mX11_plank Q 25 [(0, rf E 0), (1, .int y1), (2, .int y2), (3, .int y3)] [] μ9 := fun y1 y2 y3 μ9 h => k1 (y1, y2, y3, μ9) h
  have kx : ∀ (y1 : Int32) (y2 : Int32) (μ9 : Mm), bd_X11_plank_25  x1 x2 x3 μ = .inr (y1, y2, μ9) → J E G 3 mX11_plank Q 82 [(0, rf E 0), (1, .int y1), (2, .int y2)] [] μ9 := fun y1 y2 μ9 h => k2 (y1, y2, μ9) h
  clear k1 k2
  refine J_iload_n (dk okX11_plank 15 rfl) 3 rfl rfl ?_
  refine J_iload_n (dk okX11_plank 16 rfl) 1 rfl rfl ?_
  refine J_icmp_gt (tgt := 82) (dk okX11_plank 17 rfl) (by decide) (fun h1 => ?_) (fun h1 => ?_)
  · exact J_sub [0, 1, 2] rfl (kx x1 x2 μ (by unfold bd_X11_plank_25; first | (simp only [if_pos h1]; done) | (simp only [if_pos h1]; rfl) | rfl))
  · have t := t h1
    refine J_aload_n (dk okX11_plank 18 rfl) 0 rfl rfl ?_
    refine J_getR (dk okX11_plank 19 rfl) kfX11_92 ds_0 rfl ?_
    refine J_iload_n (dk okX11_plank 20 rfl) 3 rfl rfl ?_
    refine J_iconst (v := 0) (dk okX11_plank 21 rfl) (by decide) ?_
    obtain ⟨s2, t⟩ := t
    refine J_iast (dk okX11_plank 22 rfl) ds_48 s2 ?_
    refine J_nm (fun μ3 eμ3 => ?_)
    have t := t μ3 eμ3
    refine J_iconst (v := 0) (dk okX11_plank 23 rfl) (by decide) ?_
    refine J_istore (ls' := [(4, _), (0, _), (1, _), (2, _), (3, _)]) (dk okX11_plank 24 rfl) (by decide) rfl ?_
    have s4 := t
    refine J_sub (ls' := [(0, _), (1, _), (2, _), (3, _), (4, _)]) [1, 2, 3, 4, 0] rfl ?_
    refine lw_X11_plank_40  s4 (fun r5 er5 => ?_)
    refine J_iinc (v := ((r5.2.2.1) + 1)) (ls' := [(3, _), (0, _), (1, _), (2, _)]) (dk okX11_plank 46 rfl) 3 rfl rfl (by decide) rfl ?_
    refine J_goto (tgt := 25) (dk okX11_plank 47 rfl) (by decide) ?_
    exact J_sub [1, 2, 3, 0] rfl (kb (r5.1) (r5.2.1) ((r5.2.2.1) + 1) (r5.2.2.2) (by subst er5 eμ3; unfold bd_X11_plank_25; first | (simp only [if_neg h1]; done) | (simp only [if_neg h1]; rfl) | rfl))
/-- VotingFloor.plank(II)I -/
noncomputable def v_X11_plank (p0 : Int32) (p1 : Int32) (μ : Mm) : Int32 := (if p0 < 0 then (-1) else (if 60 < p0 then (-1) else (if p1 < 2 then (-1) else (if p1 ≤ 9 then (let r6 : Int32 × Int32 × Mm := whl (fun s : Int32 × Int32 × Int32 × Mm => bd_X11_plank_25  s.1 s.2.1 s.2.2.1 s.2.2.2) (fun s : Int32 × Int32 × Int32 × Mm => (0, 0, s.2.2.2)) FU (p0, p1, 0, μ); (v_X11_winningStride (r6.1) (r6.2.1) 0 (r6.2.2))) else (-1)))))
noncomputable def e_X11_plank (p0 : Int32) (p1 : Int32) (μ : Mm) : Mm := (if p0 < 0 then μ else (if 60 < p0 then μ else (if p1 < 2 then μ else (if p1 ≤ 9 then (let r6 : Int32 × Int32 × Mm := whl (fun s : Int32 × Int32 × Int32 × Mm => bd_X11_plank_25  s.1 s.2.1 s.2.2.1 s.2.2.2) (fun s : Int32 × Int32 × Int32 × Mm => (0, 0, s.2.2.2)) FU (p0, p1, 0, μ); (r6.2.2)) else μ))))
def p_X11_plank (p0 : Int32) (p1 : Int32)  (μ : Mm) : Prop := (¬ (p0 < 0) → (¬ (60 < p0) → (¬ (p1 < 2) → (p1 ≤ 9 → (whP (fun s : Int32 × Int32 × Int32 × Mm => bd_X11_plank_25  s.1 s.2.1 s.2.2.1 s.2.2.2) (fun s : Int32 × Int32 × Int32 × Mm => sd_X11_plank_25   s.1 s.2.1 s.2.2.1 s.2.2.2) FU (p0, p1, 0, μ)) ∧ (∀ r6 : Int32 × Int32 × Mm, r6 = whl (fun s : Int32 × Int32 × Int32 × Mm => bd_X11_plank_25  s.1 s.2.1 s.2.2.1 s.2.2.2) (fun s : Int32 × Int32 × Int32 × Mm => (0, 0, s.2.2.2)) FU (p0, p1, 0, μ) → p_X11_winningStride (r6.1) (r6.2.1) 0 (r6.2.2))))))
set_option maxRecDepth 20000 in
set_option maxHeartbeats 4000000 in
theorem con_X11_plank {E : Ex} {Q : Option Value → Mm → Prop} {p0 : Int32} {p1 : Int32} {μ : Mm} (t : p_X11_plank p0 p1  μ) (k : Q (some (.int (v_X11_plank p0 p1 μ))) (e_X11_plank p0 p1 μ)) : Con E 3 mX11_plank [rf E 0, .int p0, .int p1] μ Q := by
  refine Con_J (by decide +kernel) (Nat.le_of_ble_eq_true rfl) (fun G => ?_)
  unfold v_X11_plank e_X11_plank at k
  unfold p_X11_plank at t
  refine J_sub (ls' := [(0, rf E 0), (1, .int p0), (2, .int p1)]) [0, 1, 2] rfl ?_
  refine J_iload_n (dk okX11_plank 0 rfl) 1 rfl rfl ?_
  refine J_if_lt (tgt := 21) (dk okX11_plank 1 rfl) (by decide) (fun h1 => ?_) (fun h1 => ?_)
  · refine J_iconst (v := (-1)) (dk okX11_plank 11 rfl) (by decide) ?_
    (try simp only [if_pos h1] at k ⊢)
    exact J_iret (dk okX11_plank 12 rfl) rfl k
  · have t := t h1
    refine J_iload_n (dk okX11_plank 2 rfl) 1 rfl rfl ?_
    refine J_bipush (v := 60) (dk okX11_plank 3 rfl) (by decide) ?_
    refine J_icmp_gt (tgt := 21) (dk okX11_plank 4 rfl) (by decide) (fun h2 => ?_) (fun h2 => ?_)
    · refine J_iconst (v := (-1)) (dk okX11_plank 11 rfl) (by decide) ?_
      (try simp only [if_neg h1, if_pos h2] at k ⊢)
      exact J_iret (dk okX11_plank 12 rfl) rfl k
    · have t := t h2
      refine J_iload_n (dk okX11_plank 5 rfl) 2 rfl rfl ?_
      refine J_iconst (v := 2) (dk okX11_plank 6 rfl) (by decide) ?_
      refine J_icmp_lt (tgt := 21) (dk okX11_plank 7 rfl) (by decide) (fun h3 => ?_) (fun h3 => ?_)
      · refine J_iconst (v := (-1)) (dk okX11_plank 11 rfl) (by decide) ?_
        (try simp only [if_neg h1, if_neg h2, if_pos h3] at k ⊢)
        exact J_iret (dk okX11_plank 12 rfl) rfl k
      · have t := t h3
        refine J_iload_n (dk okX11_plank 8 rfl) 2 rfl rfl ?_
        refine J_bipush (v := 9) (dk okX11_plank 9 rfl) (by decide) ?_
        refine J_icmp_le (tgt := 23) (dk okX11_plank 10 rfl) (by decide) (fun h4 => ?_) (fun h4 => ?_)
        · have t := t h4
          refine J_iconst (v := 0) (dk okX11_plank 13 rfl) (by decide) ?_
          refine J_istore_n (ls' := [(3, _), (0, _), (1, _), (2, _)]) (dk okX11_plank 14 rfl) rfl (by decide) rfl ?_
          obtain ⟨s5, t⟩ := t
          refine J_sub (ls' := [(0, _), (1, _), (2, _), (3, _)]) [1, 2, 3, 0] rfl ?_
          refine lw_X11_plank_25  s5 (fun r6 er6 => ?_)
          have t := t r6 er6
          refine J_aload_n (dk okX11_plank 48 rfl) 0 rfl rfl ?_
          refine J_iload_n (dk okX11_plank 49 rfl) 1 rfl rfl ?_
          refine J_iload_n (dk okX11_plank 50 rfl) 2 rfl rfl ?_
          refine J_iconst (v := 0) (dk okX11_plank 51 rfl) (by decide) ?_
          have s7 := t
          refine J_callVi (As := [.int (r6.1), .int (r6.2.1), .int 0]) (dk okX11_plank 52 rfl) ds_0 rfl vkX11_winningStride lkX11_376 rfl rfl (Nat.le_of_ble_eq_true rfl) (by decide) (con_X11_winningStride s7 ⟨_, rfl, ?_⟩)
          subst er6
          (try simp only [if_neg h1, if_neg h2, if_neg h3, if_pos h4] at k ⊢)
          exact J_iret (dk okX11_plank 53 rfl) rfl k
        · refine J_iconst (v := (-1)) (dk okX11_plank 11 rfl) (by decide) ?_
          (try simp only [if_neg h1, if_neg h2, if_neg h3, if_neg h4] at k ⊢)
          exact J_iret (dk okX11_plank 12 rfl) rfl k
noncomputable def bd_X11_sheet_47  (x1 : Int32) (x3 : Int32) (x4 : Int32) (x5 : Int32) (x6 : Int32) (x7 : Int32) (μ : Mm) : (Int32 × Int32 × Int32 × Int32 × Int32 × Int32 × Mm) ⊕ (Int32 × Int32 × Mm) := (if (μ.1 1 0) ≤ x7 then .inr (x1, x6, μ) else (let μ5 : Mm := (upI μ 2 (Int32.toNatClampNeg x7) (if x5 ≤ x7 then 1 else (v_X11_entryOf x1 (x3 + (x7 * x4))) : Int32)); .inl (x1, x3, x4, x5, (x6 + (μ5.1 2 (Int32.toNatClampNeg x7))), (x7 + 1), μ5)))
def sd_X11_sheet_47   (x1 : Int32) (x3 : Int32) (x4 : Int32) (x5 : Int32) (x6 : Int32) (x7 : Int32) (μ : Mm) : Prop := (¬ ((μ.1 1 0) ≤ x7) → (vp_in x7 7) ∧ (∀ μ5 : Mm, μ5 = (upI μ 2 (Int32.toNatClampNeg x7) (if x5 ≤ x7 then 1 else (v_X11_entryOf x1 (x3 + (x7 * x4))) : Int32)) → vp_in x7 7))
set_option maxRecDepth 20000 in
set_option maxHeartbeats 4000000 in
theorem lw_X11_sheet_47 {E : Ex} {G : Gx} {Q : Option Value → Mm → Prop} {x1 : Int32} {x3 : Int32} {x4 : Int32} {x5 : Int32} {x6 : Int32} {x7 : Int32} {μ : Mm}  (p : whP (fun s : Int32 × Int32 × Int32 × Int32 × Int32 × Int32 × Mm => bd_X11_sheet_47  s.1 s.2.1 s.2.2.1 s.2.2.2.1 s.2.2.2.2.1 s.2.2.2.2.2.1 s.2.2.2.2.2.2) (fun s : Int32 × Int32 × Int32 × Int32 × Int32 × Int32 × Mm => sd_X11_sheet_47   s.1 s.2.1 s.2.2.1 s.2.2.2.1 s.2.2.2.2.1 s.2.2.2.2.2.1 s.2.2.2.2.2.2) FU (x1, x3, x4, x5, x6, x7, μ)) (k : ∀ r : Int32 × Int32 × Mm, r = whl (fun s : Int32 × Int32 × Int32 × Int32 × Int32 × Int32 × Mm => bd_X11_sheet_47  s.1 s.2.1 s.2.2.1 s.2.2.2.1 s.2.2.2.2.1 s.2.2.2.2.2.1 s.2.2.2.2.2.2) (fun s : Int32 × Int32 × Int32 × Int32 × Int32 × Int32 × Mm => (0, 0, s.2.2.2.2.2.2)) FU (x1, x3, x4, x5, x6, x7, μ) → J E G 3 mX11_sheet Q 112 [(1, .int (r.1)), (6, .int (r.2.1))] [] (r.2.2)) : J E G 3 mX11_sheet Q 47 [(0, rf E 0), (1, .int x1), (3, .int x3), (4, .int x4), (5, .int x5), (6, .int x6), (7, .int x7)] [] μ := by
  refine J_whl (f := (fun s : Int32 × Int32 × Int32 × Int32 × Int32 × Int32 × Mm => bd_X11_sheet_47  s.1 s.2.1 s.2.2.1 s.2.2.2.1 s.2.2.2.2.1 s.2.2.2.2.2.1 s.2.2.2.2.2.2)) (dd := (fun s : Int32 × Int32 × Int32 × Int32 × Int32 × Int32 × Mm => (0, 0, s.2.2.2.2.2.2))) (sd := (fun s : Int32 × Int32 × Int32 × Int32 × Int32 × Int32 × Mm => sd_X11_sheet_47   s.1 s.2.1 s.2.2.1 s.2.2.2.1 s.2.2.2.2.1 s.2.2.2.2.2.1 s.2.2.2.2.2.2)) (P := fun s : Int32 × Int32 × Int32 × Int32 × Int32 × Int32 × Mm => J E G 3 mX11_sheet Q 47 [(0, rf E 0), (1, .int (s.1)), (3, .int (s.2.1)), (4, .int (s.2.2.1)), (5, .int (s.2.2.2.1)), (6, .int (s.2.2.2.2.1)), (7, .int (s.2.2.2.2.2.1))] [] (s.2.2.2.2.2.2)) (R := fun r : Int32 × Int32 × Mm => J E G 3 mX11_sheet Q 112 [(1, .int (r.1)), (6, .int (r.2.1))] [] (r.2.2)) ?_ FU (x1, x3, x4, x5, x6, x7, μ) p (k _ rfl)
  clear p k
  rintro ⟨x1, x3, x4, x5, x6, x7, μ⟩ t k1 k2
  dsimp only [sd_X11_sheet_47] at t
  have kb : ∀ (y1 : Int32) (y3 : Int32) (y4 : Int32) (y5 : Int32) (y6 : Int32) (y7 : Int32) (μ9 : Mm), bd_X11_sheet_47  x1 x3 x4 x5 x6 x7 μ = .inl (y1, y3, y4, y5, y6, y7, μ9) → J E G 3 mX11_sheet Q 47 [(0, rf E 0), (1, .int y1), (3, .int y3), (4, .int y4), (5, .int y5), (6, .int y6), (7, .int y7)] [] μ9 := fun y1 y3 y4 y5 y6 y7 μ9 h => k1 (y1, y3, y4, y5, y6, y7, μ9) h
  have kx : ∀ (y1 : Int32) (y6 : Int32) (μ9 : Mm), bd_X11_sheet_47  x1 x3 x4 x5 x6 x7 μ = .inr (y1, y6, μ9) → J E G 3 mX11_sheet Q 112 [(1, .int y1), (6, .int y6)] [] μ9 := fun y1 y6 μ9 h => k2 (y1, y6, μ9) h
  clear k1 k2
  refine J_iload (dk okX11_sheet 28 rfl) 6 rfl ?_
  refine J_aload_n (dk okX11_sheet 29 rfl) 0 rfl rfl ?_
  refine J_getR (dk okX11_sheet 30 rfl) kfX11_12 ds_0 rfl ?_
  refine J_getI (dk okX11_sheet 31 rfl) kfX11_106 ds_1 rfl ?_
  refine J_icmp_ge (tgt := 112) (dk okX11_sheet 32 rfl) (by decide) (fun h1 => ?_) (fun h1 => ?_)
  · exact J_sub [1, 5] rfl (kx x1 x6 μ (by unfold bd_X11_sheet_47; first | (simp only [if_pos h1]; done) | (simp only [if_pos h1]; rfl) | rfl))
  · have t := t h1
    refine J_aload_n (dk okX11_sheet 33 rfl) 0 rfl rfl ?_
    refine J_getR (dk okX11_sheet 34 rfl) kfX11_12 ds_0 rfl ?_
    refine J_getR (dk okX11_sheet 35 rfl) kfX11_148 ds_1 rfl ?_
    refine J_iload (dk okX11_sheet 36 rfl) 6 rfl ?_
    refine J_iload (dk okX11_sheet 37 rfl) 6 rfl ?_
    refine J_iload (dk okX11_sheet 38 rfl) 4 rfl ?_
    have K3 : J E G 3 mX11_sheet Q 90 [(0, rf E 0), (1, .int x1), (3, .int x3), (4, .int x4), (5, .int x5), (6, .int x6), (7, .int x7)] [.int (if x5 ≤ x7 then 1 else (v_X11_entryOf x1 (x3 + (x7 * x4))) : Int32), .int x7, rf E 2] μ := by
      obtain ⟨s4, t⟩ := t
      refine J_iast (dk okX11_sheet 49 rfl) ds_2 s4 ?_
      refine J_nm (fun μ5 eμ5 => ?_)
      have t := t μ5 eμ5
      refine J_iload (dk okX11_sheet 50 rfl) 5 rfl ?_
      refine J_aload_n (dk okX11_sheet 51 rfl) 0 rfl rfl ?_
      refine J_getR (dk okX11_sheet 52 rfl) kfX11_12 ds_0 rfl ?_
      refine J_getR (dk okX11_sheet 53 rfl) kfX11_148 ds_1 rfl ?_
      refine J_iload (dk okX11_sheet 54 rfl) 6 rfl ?_
      have s6 := t
      refine J_iald (dk okX11_sheet 55 rfl) ds_2 s6 ?_
      refine J_iadd (dk okX11_sheet 56 rfl) ?_
      refine J_istore (ls' := [(6, _), (0, _), (1, _), (3, _), (4, _), (5, _), (7, _)]) (dk okX11_sheet 57 rfl) (by decide) rfl ?_
      refine J_iinc (v := (x7 + 1)) (ls' := [(7, _), (6, _), (0, _), (1, _), (3, _), (4, _), (5, _)]) (dk okX11_sheet 58 rfl) 6 rfl rfl (by decide) rfl ?_
      refine J_goto (tgt := 47) (dk okX11_sheet 59 rfl) (by decide) ?_
      exact J_sub [2, 3, 4, 5, 6, 1, 0] rfl (kb x1 x3 x4 x5 (x6 + (μ5.1 2 (Int32.toNatClampNeg x7))) (x7 + 1) μ5 (by subst eμ5; unfold bd_X11_sheet_47; first | (simp only [if_neg h1]; done) | (simp only [if_neg h1]; rfl) | rfl))
    refine J_icmp_ge (tgt := 89) (dk okX11_sheet 39 rfl) (by decide) (fun h2 => ?_) (fun h2 => ?_)
    · refine J_iconst (v := 1) (dk okX11_sheet 48 rfl) (by decide) ?_
      refine J_sub (ls' := [(0, _), (1, _), (3, _), (4, _), (5, _), (6, _), (7, _)]) [0, 1, 2, 3, 4, 5, 6] rfl ?_
      (try simp only [if_pos h2] at K3 ⊢); exact K3
    · refine J_iload_n (dk okX11_sheet 40 rfl) 1 rfl rfl ?_
      refine J_iload_n (dk okX11_sheet 41 rfl) 2 rfl rfl ?_
      refine J_iload (dk okX11_sheet 42 rfl) 6 rfl ?_
      refine J_iload (dk okX11_sheet 43 rfl) 3 rfl ?_
      refine J_imul (dk okX11_sheet 44 rfl) ?_
      refine J_iadd (dk okX11_sheet 45 rfl) ?_
      refine J_callSi (As := [.int x1, .int (x3 + (x7 * x4))]) (dk okX11_sheet 46 rfl) skX11_entryOf lkX11_173 rfl rfl (Nat.le_of_ble_eq_true rfl) (by decide) (con_X11_entryOf  ⟨_, rfl, ?_⟩)
      refine J_goto (tgt := 90) (dk okX11_sheet 47 rfl) (by decide) ?_
      refine J_sub (ls' := [(0, _), (1, _), (3, _), (4, _), (5, _), (6, _), (7, _)]) [0, 1, 2, 3, 4, 5, 6] rfl ?_
      (try simp only [if_neg h2] at K3 ⊢); exact K3
/-- VotingFloor.sheet(IIII)I -/
noncomputable def v_X11_sheet (p0 : Int32) (p1 : Int32) (p2 : Int32) (p3 : Int32) (μ : Mm) : Int32 := (if p0 < 0 then (-1) else (if 3 < p0 then (-1) else (if p1 ≤ 7 then (if p0 = 3 then (let r8 : Int32 × Int32 × Mm := whl (fun s : Int32 × Int32 × Int32 × Int32 × Int32 × Int32 × Mm => bd_X11_sheet_47  s.1 s.2.1 s.2.2.1 s.2.2.2.1 s.2.2.2.2.1 s.2.2.2.2.2.1 s.2.2.2.2.2.2) (fun s : Int32 × Int32 × Int32 × Int32 × Int32 × Int32 × Mm => (0, 0, s.2.2.2.2.2.2)) FU (p0, p2, p3, 0, 0, 0, μ); (if (r8.1) = 3 then (-3) else (r8.2.1) : Int32)) else (if 0 ≤ p1 then (let r15 : Int32 × Int32 × Mm := whl (fun s : Int32 × Int32 × Int32 × Int32 × Int32 × Int32 × Mm => bd_X11_sheet_47  s.1 s.2.1 s.2.2.1 s.2.2.2.1 s.2.2.2.2.1 s.2.2.2.2.2.1 s.2.2.2.2.2.2) (fun s : Int32 × Int32 × Int32 × Int32 × Int32 × Int32 × Mm => (0, 0, s.2.2.2.2.2.2)) FU (p0, p2, p3, p1, 0, 0, μ); (if (r15.1) = 3 then (-3) else (r15.2.1) : Int32)) else (-2))) else (-1))))
noncomputable def e_X11_sheet (p0 : Int32) (p1 : Int32) (p2 : Int32) (p3 : Int32) (μ : Mm) : Mm := (if p0 < 0 then μ else (if 3 < p0 then μ else (if p1 ≤ 7 then (if p0 = 3 then (let r8 : Int32 × Int32 × Mm := whl (fun s : Int32 × Int32 × Int32 × Int32 × Int32 × Int32 × Mm => bd_X11_sheet_47  s.1 s.2.1 s.2.2.1 s.2.2.2.1 s.2.2.2.2.1 s.2.2.2.2.2.1 s.2.2.2.2.2.2) (fun s : Int32 × Int32 × Int32 × Int32 × Int32 × Int32 × Mm => (0, 0, s.2.2.2.2.2.2)) FU (p0, p2, p3, 0, 0, 0, μ); (r8.2.2)) else (if 0 ≤ p1 then (let r15 : Int32 × Int32 × Mm := whl (fun s : Int32 × Int32 × Int32 × Int32 × Int32 × Int32 × Mm => bd_X11_sheet_47  s.1 s.2.1 s.2.2.1 s.2.2.2.1 s.2.2.2.2.1 s.2.2.2.2.2.1 s.2.2.2.2.2.2) (fun s : Int32 × Int32 × Int32 × Int32 × Int32 × Int32 × Mm => (0, 0, s.2.2.2.2.2.2)) FU (p0, p2, p3, p1, 0, 0, μ); (r15.2.2)) else μ)) else μ)))
def p_X11_sheet (p0 : Int32) (p1 : Int32) (p2 : Int32) (p3 : Int32)  (μ : Mm) : Prop := (¬ (p0 < 0) → (¬ (3 < p0) → (p1 ≤ 7 → ((p0 = 3 → whP (fun s : Int32 × Int32 × Int32 × Int32 × Int32 × Int32 × Mm => bd_X11_sheet_47  s.1 s.2.1 s.2.2.1 s.2.2.2.1 s.2.2.2.2.1 s.2.2.2.2.2.1 s.2.2.2.2.2.2) (fun s : Int32 × Int32 × Int32 × Int32 × Int32 × Int32 × Mm => sd_X11_sheet_47   s.1 s.2.1 s.2.2.1 s.2.2.2.1 s.2.2.2.2.1 s.2.2.2.2.2.1 s.2.2.2.2.2.2) FU (p0, p2, p3, 0, 0, 0, μ)) ∧ (¬ (p0 = 3) → (0 ≤ p1 → whP (fun s : Int32 × Int32 × Int32 × Int32 × Int32 × Int32 × Mm => bd_X11_sheet_47  s.1 s.2.1 s.2.2.1 s.2.2.2.1 s.2.2.2.2.1 s.2.2.2.2.2.1 s.2.2.2.2.2.2) (fun s : Int32 × Int32 × Int32 × Int32 × Int32 × Int32 × Mm => sd_X11_sheet_47   s.1 s.2.1 s.2.2.1 s.2.2.2.1 s.2.2.2.2.1 s.2.2.2.2.2.1 s.2.2.2.2.2.2) FU (p0, p2, p3, p1, 0, 0, μ)))))))
set_option maxRecDepth 20000 in
set_option maxHeartbeats 4000000 in
theorem con_X11_sheet {E : Ex} {Q : Option Value → Mm → Prop} {p0 : Int32} {p1 : Int32} {p2 : Int32} {p3 : Int32} {μ : Mm} (t : p_X11_sheet p0 p1 p2 p3  μ) (k : Q (some (.int (v_X11_sheet p0 p1 p2 p3 μ))) (e_X11_sheet p0 p1 p2 p3 μ)) : Con E 3 mX11_sheet [rf E 0, .int p0, .int p1, .int p2, .int p3] μ Q := by
  refine Con_J (by decide +kernel) (Nat.le_of_ble_eq_true rfl) (fun G => ?_)
  unfold v_X11_sheet e_X11_sheet at k
  unfold p_X11_sheet at t
  refine J_sub (ls' := [(0, rf E 0), (1, .int p0), (2, .int p1), (3, .int p2), (4, .int p3)]) [0, 1, 2, 3, 4] rfl ?_
  refine J_iload_n (dk okX11_sheet 0 rfl) 1 rfl rfl ?_
  refine J_if_lt (tgt := 15) (dk okX11_sheet 1 rfl) (by decide) (fun h1 => ?_) (fun h1 => ?_)
  · refine J_iconst (v := (-1)) (dk okX11_sheet 8 rfl) (by decide) ?_
    (try simp only [if_pos h1] at k ⊢)
    exact J_iret (dk okX11_sheet 9 rfl) rfl k
  · have t := t h1
    refine J_iload_n (dk okX11_sheet 2 rfl) 1 rfl rfl ?_
    refine J_iconst (v := 3) (dk okX11_sheet 3 rfl) (by decide) ?_
    refine J_icmp_gt (tgt := 15) (dk okX11_sheet 4 rfl) (by decide) (fun h2 => ?_) (fun h2 => ?_)
    · refine J_iconst (v := (-1)) (dk okX11_sheet 8 rfl) (by decide) ?_
      (try simp only [if_neg h1, if_pos h2] at k ⊢)
      exact J_iret (dk okX11_sheet 9 rfl) rfl k
    · have t := t h2
      refine J_iload_n (dk okX11_sheet 5 rfl) 2 rfl rfl ?_
      refine J_bipush (v := 7) (dk okX11_sheet 6 rfl) (by decide) ?_
      refine J_icmp_le (tgt := 17) (dk okX11_sheet 7 rfl) (by decide) (fun h3 => ?_) (fun h3 => ?_)
      · have t := t h3
        refine J_iload_n (dk okX11_sheet 10 rfl) 1 rfl rfl ?_
        refine J_iconst (v := 3) (dk okX11_sheet 11 rfl) (by decide) ?_
        refine J_icmp_eq (tgt := 29) (dk okX11_sheet 12 rfl) (by decide) (fun h4 => ?_) (fun h4 => ?_)
        · have t := t.1 h4
          refine J_iload_n (dk okX11_sheet 17 rfl) 1 rfl rfl ?_
          refine J_iconst (v := 3) (dk okX11_sheet 18 rfl) (by decide) ?_
          refine J_icmp_ne (tgt := 38) (dk okX11_sheet 19 rfl) (by decide) (fun h6 => absurd h4 h6) (fun h6 => ?_)
          refine J_iconst (v := 0) (dk okX11_sheet 20 rfl) (by decide) ?_
          refine J_goto (tgt := 39) (dk okX11_sheet 21 rfl) (by decide) ?_
          refine J_istore (ls' := [(5, _), (0, _), (1, _), (2, _), (3, _), (4, _)]) (dk okX11_sheet 23 rfl) (by decide) rfl ?_
          refine J_iconst (v := 0) (dk okX11_sheet 24 rfl) (by decide) ?_
          refine J_istore (ls' := [(6, _), (5, _), (0, _), (1, _), (2, _), (3, _), (4, _)]) (dk okX11_sheet 25 rfl) (by decide) rfl ?_
          refine J_iconst (v := 0) (dk okX11_sheet 26 rfl) (by decide) ?_
          refine J_istore (ls' := [(7, _), (6, _), (5, _), (0, _), (1, _), (2, _), (3, _), (4, _)]) (dk okX11_sheet 27 rfl) (by decide) rfl ?_
          have s7 := t
          refine J_sub (ls' := [(0, _), (1, _), (3, _), (4, _), (5, _), (6, _), (7, _)]) [3, 4, 6, 7, 2, 1, 0] rfl ?_
          refine lw_X11_sheet_47  s7 (fun r8 er8 => ?_)
          refine J_iload_n (dk okX11_sheet 60 rfl) 0 rfl rfl ?_
          refine J_iconst (v := 3) (dk okX11_sheet 61 rfl) (by decide) ?_
          have K10 : J E G 3 mX11_sheet Q 124 [] [.int (if (r8.1) = 3 then (-3) else (r8.2.1) : Int32)] (r8.2.2) := by
            subst er8
            (try simp only [if_neg h1, if_neg h2, if_pos h3, if_pos h4] at k ⊢)
            exact J_iret (dk okX11_sheet 66 rfl) rfl k
          refine J_icmp_ne (tgt := 122) (dk okX11_sheet 62 rfl) (by decide) (fun h9 => ?_) (fun h9 => ?_)
          · refine J_iload (dk okX11_sheet 65 rfl) 1 rfl ?_
            refine J_sub (ls' := []) [] rfl ?_
            (try simp only [if_neg h9] at K10 ⊢); exact K10
          · refine J_bipush (v := (-3)) (dk okX11_sheet 63 rfl) (by decide) ?_
            refine J_goto (tgt := 124) (dk okX11_sheet 64 rfl) (by decide) ?_
            refine J_sub (ls' := []) [] rfl ?_
            (try simp only [if_pos h9] at K10 ⊢); exact K10
        · have t := t.2 h4
          refine J_iload_n (dk okX11_sheet 13 rfl) 2 rfl rfl ?_
          refine J_if_ge (tgt := 29) (dk okX11_sheet 14 rfl) (by decide) (fun h11 => ?_) (fun h11 => ?_)
          · have t := t h11
            refine J_iload_n (dk okX11_sheet 17 rfl) 1 rfl rfl ?_
            refine J_iconst (v := 3) (dk okX11_sheet 18 rfl) (by decide) ?_
            refine J_icmp_ne (tgt := 38) (dk okX11_sheet 19 rfl) (by decide) (fun h13 => ?_) (fun h13 => absurd h13 h4)
            refine J_iload_n (dk okX11_sheet 22 rfl) 2 rfl rfl ?_
            refine J_istore (ls' := [(5, _), (0, _), (1, _), (2, _), (3, _), (4, _)]) (dk okX11_sheet 23 rfl) (by decide) rfl ?_
            refine J_iconst (v := 0) (dk okX11_sheet 24 rfl) (by decide) ?_
            refine J_istore (ls' := [(6, _), (5, _), (0, _), (1, _), (2, _), (3, _), (4, _)]) (dk okX11_sheet 25 rfl) (by decide) rfl ?_
            refine J_iconst (v := 0) (dk okX11_sheet 26 rfl) (by decide) ?_
            refine J_istore (ls' := [(7, _), (6, _), (5, _), (0, _), (1, _), (2, _), (3, _), (4, _)]) (dk okX11_sheet 27 rfl) (by decide) rfl ?_
            have s14 := t
            refine J_sub (ls' := [(0, _), (1, _), (3, _), (4, _), (5, _), (6, _), (7, _)]) [3, 4, 6, 7, 2, 1, 0] rfl ?_
            refine lw_X11_sheet_47  s14 (fun r15 er15 => ?_)
            refine J_iload_n (dk okX11_sheet 60 rfl) 0 rfl rfl ?_
            refine J_iconst (v := 3) (dk okX11_sheet 61 rfl) (by decide) ?_
            have K17 : J E G 3 mX11_sheet Q 124 [] [.int (if (r15.1) = 3 then (-3) else (r15.2.1) : Int32)] (r15.2.2) := by
              subst er15
              (try simp only [if_neg h1, if_neg h2, if_pos h3, if_neg h4, if_pos h11] at k ⊢)
              exact J_iret (dk okX11_sheet 66 rfl) rfl k
            refine J_icmp_ne (tgt := 122) (dk okX11_sheet 62 rfl) (by decide) (fun h16 => ?_) (fun h16 => ?_)
            · refine J_iload (dk okX11_sheet 65 rfl) 1 rfl ?_
              refine J_sub (ls' := []) [] rfl ?_
              (try simp only [if_neg h16] at K17 ⊢); exact K17
            · refine J_bipush (v := (-3)) (dk okX11_sheet 63 rfl) (by decide) ?_
              refine J_goto (tgt := 124) (dk okX11_sheet 64 rfl) (by decide) ?_
              refine J_sub (ls' := []) [] rfl ?_
              (try simp only [if_pos h16] at K17 ⊢); exact K17
          · refine J_bipush (v := (-2)) (dk okX11_sheet 15 rfl) (by decide) ?_
            (try simp only [if_neg h1, if_neg h2, if_pos h3, if_neg h4, if_neg h11] at k ⊢)
            exact J_iret (dk okX11_sheet 16 rfl) rfl k
      · refine J_iconst (v := (-1)) (dk okX11_sheet 8 rfl) (by decide) ?_
        (try simp only [if_neg h1, if_neg h2, if_neg h3] at k ⊢)
        exact J_iret (dk okX11_sheet 9 rfl) rfl k
/-- VotingFloor.undo()I -/
noncomputable def v_X11_undo  (μ : Mm) : Int32 := (let μ2 : Mm := (e_X3_back 1 μ); (if (v_X3_back 1 μ) = 0 then (-1) else (μ2.1 29 2) : Int32))
noncomputable def e_X11_undo  (μ : Mm) : Mm := (let μ2 : Mm := (e_X3_back 1 μ); μ2)
def p_X11_undo   (μ : Mm) : Prop := p_X3_back 1 μ
set_option maxRecDepth 20000 in
set_option maxHeartbeats 4000000 in
theorem con_X11_undo {E : Ex} {Q : Option Value → Mm → Prop} {μ : Mm} (t : p_X11_undo   μ) (k : Q (some (.int (v_X11_undo  μ))) (e_X11_undo  μ)) : Con E 3 mX11_undo [rf E 0] μ Q := by
  refine Con_J (by decide +kernel) (Nat.le_of_ble_eq_true rfl) (fun G => ?_)
  unfold v_X11_undo e_X11_undo at k
  unfold p_X11_undo at t
  refine J_sub (ls' := [(0, rf E 0)]) [0] rfl ?_
  refine J_aload_n (dk okX11_undo 0 rfl) 0 rfl rfl ?_
  refine J_getR (dk okX11_undo 1 rfl) kfX11_46 ds_0 rfl ?_
  refine J_aload_n (dk okX11_undo 2 rfl) 0 rfl rfl ?_
  refine J_getR (dk okX11_undo 3 rfl) kfX11_12 ds_0 rfl ?_
  have s1 := t
  refine J_callVi (As := [rf E 1]) (dk okX11_undo 4 rfl) ds_29 rfl vkX3_back lkX11_243 rfl rfl (Nat.le_of_ble_eq_true rfl) (by decide) (con_X3_back FloorAt_1 s1 ⟨_, rfl, ?_⟩)
  refine J_nm (fun μ2 eμ2 => ?_)
  have K4 : J E G 3 mX11_undo Q 25 [] [.int (if (v_X3_back 1 μ) = 0 then (-1) else (μ2.1 29 2) : Int32)] μ2 := by
    subst eμ2
    exact J_iret (dk okX11_undo 11 rfl) rfl k
  refine J_if_eq (tgt := 24) (dk okX11_undo 5 rfl) (by decide) (fun h3 => ?_) (fun h3 => ?_)
  · refine J_iconst (v := (-1)) (dk okX11_undo 10 rfl) (by decide) ?_
    refine J_sub (ls' := []) [] rfl ?_
    (try simp only [if_pos h3] at K4 ⊢); exact K4
  · refine J_aload_n (dk okX11_undo 6 rfl) 0 rfl rfl ?_
    refine J_getR (dk okX11_undo 7 rfl) kfX11_46 ds_0 rfl ?_
    refine J_getI (dk okX11_undo 8 rfl) kfX11_247 ds_29 rfl ?_
    refine J_goto (tgt := 25) (dk okX11_undo 9 rfl) (by decide) ?_
    refine J_sub (ls' := []) [] rfl ?_
    (try simp only [if_neg h3] at K4 ⊢); exact K4
noncomputable def bd_X12_caring_4  (μ : Mm) (x1 : Int32) (x2 : Int32) (x3 : Int32) : (Int32 × Int32 × Int32) ⊕ (Int32) := (if (μ.1 49 3) ≤ x3 then .inr x2 else .inl (x1, (x2 + (if (v_X12_has (v_X12_here 52 μ) x3) = 0 then 0 else ((v_X12_load 52 x3 μ) * (if (v_X12_has x1 x3) = 0 then (μ.1 52 (Int32.toNatClampNeg x3)) else (-(μ.1 52 (Int32.toNatClampNeg x3))) : Int32)) : Int32)), (x3 + 1)))
def sd_X12_caring_4   (μ : Mm) (x1 : Int32) (x2 : Int32) (x3 : Int32) : Prop := (¬ ((μ.1 49 3) ≤ x3) → ((((v_X12_has x1 x3) = 0 → vp_in x3 24) ∧ (¬ ((v_X12_has x1 x3) = 0) → vp_in x3 24))) ∧ (¬ ((v_X12_has (v_X12_here 52 μ) x3) = 0) → p_X12_load 52 x3))
set_option maxRecDepth 20000 in
set_option maxHeartbeats 4000000 in
theorem lw_X12_caring_4 {E : Ex} {G : Gx} {Q : Option Value → Mm → Prop} {x1 : Int32} {x2 : Int32} {x3 : Int32} {μ : Mm}  (p : whP (fun s : Int32 × Int32 × Int32 => bd_X12_caring_4  μ s.1 s.2.1 s.2.2) (fun s : Int32 × Int32 × Int32 => sd_X12_caring_4   μ s.1 s.2.1 s.2.2) FU (x1, x2, x3)) (k : ∀ r : Int32, r = whl (fun s : Int32 × Int32 × Int32 => bd_X12_caring_4  μ s.1 s.2.1 s.2.2) (fun _ : Int32 × Int32 × Int32 => 0) FU (x1, x2, x3) → J E G 3 mX12_caring Q 78 [(2, .int r)] [] μ) : J E G 3 mX12_caring Q 4 [(0, rf E 49), (1, .int x1), (2, .int x2), (3, .int x3)] [] μ := by
  refine J_whl (f := (fun s : Int32 × Int32 × Int32 => bd_X12_caring_4  μ s.1 s.2.1 s.2.2)) (dd := (fun _ : Int32 × Int32 × Int32 => 0)) (sd := (fun s : Int32 × Int32 × Int32 => sd_X12_caring_4   μ s.1 s.2.1 s.2.2)) (P := fun s : Int32 × Int32 × Int32 => J E G 3 mX12_caring Q 4 [(0, rf E 49), (1, .int (s.1)), (2, .int (s.2.1)), (3, .int (s.2.2))] [] (μ)) (R := fun r : Int32 => J E G 3 mX12_caring Q 78 [(2, .int r)] [] μ) ?_ FU (x1, x2, x3) p (k _ rfl)
  clear p k
  rintro ⟨x1, x2, x3⟩ t k1 k2
  dsimp only [sd_X12_caring_4] at t
  have kb : ∀ (y1 : Int32) (y2 : Int32) (y3 : Int32) , bd_X12_caring_4  μ x1 x2 x3 = .inl (y1, y2, y3) → J E G 3 mX12_caring Q 4 [(0, rf E 49), (1, .int y1), (2, .int y2), (3, .int y3)] [] μ := fun y1 y2 y3  h => k1 (y1, y2, y3) h
  have kx : ∀ (y2 : Int32) , bd_X12_caring_4  μ x1 x2 x3 = .inr y2 → J E G 3 mX12_caring Q 78 [(2, .int y2)] [] μ := fun y2  h => k2 y2 h
  clear k1 k2
  refine J_iload_n (dk okX12_caring 4 rfl) 3 rfl rfl ?_
  refine J_aload_n (dk okX12_caring 5 rfl) 0 rfl rfl ?_
  refine J_getI (dk okX12_caring 6 rfl) kfX12_111 ds_49 rfl ?_
  refine J_icmp_ge (tgt := 78) (dk okX12_caring 7 rfl) (by decide) (fun h1 => ?_) (fun h1 => ?_)
  · exact J_sub [2] rfl (kx x2 (by unfold bd_X12_caring_4; first | (simp only [if_pos h1]; done) | (simp only [if_pos h1]; rfl) | rfl))
  · have t := t h1
    refine J_iload_n (dk okX12_caring 8 rfl) 1 rfl rfl ?_
    refine J_iload_n (dk okX12_caring 9 rfl) 3 rfl rfl ?_
    refine J_callSi (As := [.int x1, .int x3]) (dk okX12_caring 10 rfl) skX12_has lkX12_126 rfl rfl (Nat.le_of_ble_eq_true rfl) (by decide) (con_X12_has  ⟨_, rfl, ?_⟩)
    obtain ⟨t9, t⟩ := t
    have K5 : J E G 3 mX12_caring Q 36 [(0, rf E 49), (1, .int x1), (2, .int x2), (3, .int x3)] [.int (if (v_X12_has x1 x3) = 0 then (μ.1 52 (Int32.toNatClampNeg x3)) else (-(μ.1 52 (Int32.toNatClampNeg x3))) : Int32)] μ := by
      refine J_istore (ls' := [(4, _), (0, _), (1, _), (2, _), (3, _)]) (dk okX12_caring 22 rfl) (by decide) rfl ?_
      refine J_iload_n (dk okX12_caring 23 rfl) 3 rfl rfl ?_
      refine J_aload_n (dk okX12_caring 24 rfl) 1 rfl rfl ?_
      refine J_aload_n (dk okX12_caring 25 rfl) 1 rfl rfl ?_
      refine J_getR (dk okX12_caring 26 rfl) kfX12_32 ds_49 rfl ?_
      refine J_callVi (As := [rf E 52]) (dk okX12_caring 27 rfl) ds_49 rfl vkX12_here lkX12_122 rfl rfl (Nat.le_of_ble_eq_true rfl) (by decide) (con_X12_here ds_52 ⟨_, rfl, ?_⟩)
      refine J_iload_n (dk okX12_caring 28 rfl) 4 rfl rfl ?_
      refine J_callSi (As := [.int (v_X12_here 52 μ), .int x3]) (dk okX12_caring 29 rfl) skX12_has lkX12_126 rfl rfl (Nat.le_of_ble_eq_true rfl) (by decide) (con_X12_has  ⟨_, rfl, ?_⟩)
      have K8 : J E G 3 mX12_caring Q 70 [(0, rf E 49), (1, .int x1), (3, .int x3)] [.int (if (v_X12_has (v_X12_here 52 μ) x3) = 0 then 0 else ((v_X12_load 52 x3 μ) * (if (v_X12_has x1 x3) = 0 then (μ.1 52 (Int32.toNatClampNeg x3)) else (-(μ.1 52 (Int32.toNatClampNeg x3))) : Int32)) : Int32), .int x2] μ := by
        refine J_iadd (dk okX12_caring 40 rfl) ?_
        refine J_istore_n (ls' := [(2, _), (0, _), (1, _), (3, _)]) (dk okX12_caring 41 rfl) rfl (by decide) rfl ?_
        refine J_iinc (v := (x3 + 1)) (ls' := [(3, _), (2, _), (0, _), (1, _)]) (dk okX12_caring 42 rfl) 3 rfl rfl (by decide) rfl ?_
        refine J_goto (tgt := 4) (dk okX12_caring 43 rfl) (by decide) ?_
        exact J_sub [2, 3, 1, 0] rfl (kb x1 (x2 + (if (v_X12_has (v_X12_here 52 μ) x3) = 0 then 0 else ((v_X12_load 52 x3 μ) * (if (v_X12_has x1 x3) = 0 then (μ.1 52 (Int32.toNatClampNeg x3)) else (-(μ.1 52 (Int32.toNatClampNeg x3))) : Int32)) : Int32)) (x3 + 1) (by unfold bd_X12_caring_4; first | (simp only [if_neg h1]; done) | (simp only [if_neg h1]; rfl) | rfl))
      refine J_if_eq (tgt := 69) (dk okX12_caring 30 rfl) (by decide) (fun h6 => ?_) (fun h6 => ?_)
      · refine J_iconst (v := 0) (dk okX12_caring 39 rfl) (by decide) ?_
        refine J_sub (ls' := [(0, _), (1, _), (3, _)]) [1, 2, 4] rfl ?_
        (try simp only [if_pos h6] at K8 ⊢); exact K8
      · have t := t h6
        refine J_aload_n (dk okX12_caring 31 rfl) 1 rfl rfl ?_
        refine J_aload_n (dk okX12_caring 32 rfl) 1 rfl rfl ?_
        refine J_getR (dk okX12_caring 33 rfl) kfX12_32 ds_49 rfl ?_
        refine J_iload_n (dk okX12_caring 34 rfl) 4 rfl rfl ?_
        have s7 := t
        refine J_callVi (As := [rf E 52, .int x3]) (dk okX12_caring 35 rfl) ds_49 rfl vkX12_load lkX12_130 rfl rfl (Nat.le_of_ble_eq_true rfl) (by decide) (con_X12_load ds_52 s7 ⟨_, rfl, ?_⟩)
        refine J_iload (dk okX12_caring 36 rfl) 0 rfl ?_
        refine J_imul (dk okX12_caring 37 rfl) ?_
        refine J_goto (tgt := 70) (dk okX12_caring 38 rfl) (by decide) ?_
        refine J_sub (ls' := [(0, _), (1, _), (3, _)]) [1, 2, 4] rfl ?_
        (try simp only [if_neg h6] at K8 ⊢); exact K8
    have t := t9
    refine J_if_eq (tgt := 30) (dk okX12_caring 11 rfl) (by decide) (fun h2 => ?_) (fun h2 => ?_)
    · have t := t.1 h2
      refine J_aload_n (dk okX12_caring 18 rfl) 0 rfl rfl ?_
      refine J_getR (dk okX12_caring 19 rfl) kfX12_32 ds_49 rfl ?_
      refine J_iload_n (dk okX12_caring 20 rfl) 3 rfl rfl ?_
      have s3 := t
      refine J_iald (dk okX12_caring 21 rfl) ds_52 s3 ?_
      refine J_sub (ls' := [(0, _), (1, _), (2, _), (3, _)]) [0, 1, 2, 3] rfl ?_
      (try simp only [if_pos h2] at K5 ⊢); exact K5
    · have t := t.2 h2
      refine J_aload_n (dk okX12_caring 12 rfl) 0 rfl rfl ?_
      refine J_getR (dk okX12_caring 13 rfl) kfX12_32 ds_49 rfl ?_
      refine J_iload_n (dk okX12_caring 14 rfl) 3 rfl rfl ?_
      have s4 := t
      refine J_iald (dk okX12_caring 15 rfl) ds_52 s4 ?_
      refine J_ineg (dk okX12_caring 16 rfl) ?_
      refine J_goto (tgt := 36) (dk okX12_caring 17 rfl) (by decide) ?_
      refine J_sub (ls' := [(0, _), (1, _), (2, _), (3, _)]) [0, 1, 2, 3] rfl ?_
      (try simp only [if_neg h2] at K5 ⊢); exact K5
/-- VotingFloorModel.caring(I)I -/
noncomputable def v_X12_caring (p0 : Int32) (μ : Mm) : Int32 := (let r2 : Int32 := whl (fun s : Int32 × Int32 × Int32 => bd_X12_caring_4  μ s.1 s.2.1 s.2.2) (fun _ : Int32 × Int32 × Int32 => 0) FU (p0, 0, 0); r2)
def p_X12_caring (p0 : Int32)  (μ : Mm) : Prop := whP (fun s : Int32 × Int32 × Int32 => bd_X12_caring_4  μ s.1 s.2.1 s.2.2) (fun s : Int32 × Int32 × Int32 => sd_X12_caring_4   μ s.1 s.2.1 s.2.2) FU (p0, 0, 0)
set_option maxRecDepth 20000 in
set_option maxHeartbeats 4000000 in
theorem con_X12_caring {E : Ex} {Q : Option Value → Mm → Prop} {p0 : Int32} {μ : Mm} (t : p_X12_caring p0  μ) (k : Q (some (.int (v_X12_caring p0 μ))) μ) : Con E 3 mX12_caring [rf E 49, .int p0] μ Q := by
  refine Con_J (by decide +kernel) (Nat.le_of_ble_eq_true rfl) (fun G => ?_)
  unfold v_X12_caring at k
  unfold p_X12_caring at t
  refine J_sub (ls' := [(0, rf E 49), (1, .int p0)]) [0, 1] rfl ?_
  refine J_iconst (v := 0) (dk okX12_caring 0 rfl) (by decide) ?_
  refine J_istore_n (ls' := [(2, _), (0, _), (1, _)]) (dk okX12_caring 1 rfl) rfl (by decide) rfl ?_
  refine J_iconst (v := 0) (dk okX12_caring 2 rfl) (by decide) ?_
  refine J_istore_n (ls' := [(3, _), (2, _), (0, _), (1, _)]) (dk okX12_caring 3 rfl) rfl (by decide) rfl ?_
  have s1 := t
  refine J_sub (ls' := [(0, _), (1, _), (2, _), (3, _)]) [2, 3, 1, 0] rfl ?_
  refine lw_X12_caring_4  s1 (fun r2 er2 => ?_)
  refine J_iload_n (dk okX12_caring 44 rfl) 0 rfl rfl ?_
  subst er2
  exact J_iret (dk okX12_caring 45 rfl) rfl k
noncomputable def bd_X12_crossings_37  (x1 : Int32) (x2 : Int32) (x3 : Int32) (x4 : Int32) (μ : Mm) : (Int32 × Int32 × Int32 × Int32 × Mm) ⊕ (Int32 × Int32 × Int32 × Mm) := (if 9 < x4 then .inr (x1, x2, x3, μ) else (let μ13 : Mm := (if (v_X12_isRest x3 x4 x1 μ) = 0 then μ else (if (v_X12_isRest x4 x3 x1 μ) = 0 then μ else ((if x2 = 0 then ((e_X12_enters (Int32.toInt64 x4) ((e_X12_enters (Int32.toInt64 x3) μ)))) else μ : Mm)) : Mm) : Mm); .inl (x1, (if (v_X12_isRest x3 x4 x1 μ) = 0 then x2 else (if (v_X12_isRest x4 x3 x1 μ) = 0 then x2 else (x2 + 1) : Int32) : Int32), x3, (x4 + 1), μ13)))
def sd_X12_crossings_37   (x1 : Int32) (x2 : Int32) (x3 : Int32) (x4 : Int32) (μ : Mm) : Prop := (¬ (9 < x4) → (p_X12_isRest x3 x4 x1 μ) ∧ (¬ ((v_X12_isRest x3 x4 x1 μ) = 0) → (p_X12_isRest x4 x3 x1 μ) ∧ (¬ ((v_X12_isRest x4 x3 x1 μ) = 0) → (x2 = 0 → (p_X12_enters (Int32.toInt64 x3) μ) ∧ (∀ μ8 : Mm, μ8 = (e_X12_enters (Int32.toInt64 x3) μ) → p_X12_enters (Int32.toInt64 x4) μ8)))))
set_option maxRecDepth 20000 in
set_option maxHeartbeats 4000000 in
theorem lw_X12_crossings_37 {E : Ex} {G : Gx} {Q : Option Value → Mm → Prop} {x1 : Int32} {x2 : Int32} {x3 : Int32} {x4 : Int32} {μ : Mm}  (p : whP (fun s : Int32 × Int32 × Int32 × Int32 × Mm => bd_X12_crossings_37  s.1 s.2.1 s.2.2.1 s.2.2.2.1 s.2.2.2.2) (fun s : Int32 × Int32 × Int32 × Int32 × Mm => sd_X12_crossings_37   s.1 s.2.1 s.2.2.1 s.2.2.2.1 s.2.2.2.2) FU (x1, x2, x3, x4, μ)) (k : ∀ r : Int32 × Int32 × Int32 × Mm, r = whl (fun s : Int32 × Int32 × Int32 × Int32 × Mm => bd_X12_crossings_37  s.1 s.2.1 s.2.2.1 s.2.2.2.1 s.2.2.2.2) (fun s : Int32 × Int32 × Int32 × Int32 × Mm => (0, 0, 0, s.2.2.2.2)) FU (x1, x2, x3, x4, μ) → J E G 3 mX12_crossings Q 90 [(0, rf E 49), (1, .int (r.1)), (2, .int (r.2.1)), (3, .int (r.2.2.1))] [] (r.2.2.2)) : J E G 3 mX12_crossings Q 37 [(0, rf E 49), (1, .int x1), (2, .int x2), (3, .int x3), (4, .int x4)] [] μ := by
  refine J_whl (f := (fun s : Int32 × Int32 × Int32 × Int32 × Mm => bd_X12_crossings_37  s.1 s.2.1 s.2.2.1 s.2.2.2.1 s.2.2.2.2)) (dd := (fun s : Int32 × Int32 × Int32 × Int32 × Mm => (0, 0, 0, s.2.2.2.2))) (sd := (fun s : Int32 × Int32 × Int32 × Int32 × Mm => sd_X12_crossings_37   s.1 s.2.1 s.2.2.1 s.2.2.2.1 s.2.2.2.2)) (P := fun s : Int32 × Int32 × Int32 × Int32 × Mm => J E G 3 mX12_crossings Q 37 [(0, rf E 49), (1, .int (s.1)), (2, .int (s.2.1)), (3, .int (s.2.2.1)), (4, .int (s.2.2.2.1))] [] (s.2.2.2.2)) (R := fun r : Int32 × Int32 × Int32 × Mm => J E G 3 mX12_crossings Q 90 [(0, rf E 49), (1, .int (r.1)), (2, .int (r.2.1)), (3, .int (r.2.2.1))] [] (r.2.2.2)) ?_ FU (x1, x2, x3, x4, μ) p (k _ rfl)
  clear p k
  rintro ⟨x1, x2, x3, x4, μ⟩ t k1 k2
  dsimp only [sd_X12_crossings_37] at t
  have kb : ∀ (y1 : Int32) (y2 : Int32) (y3 : Int32) (y4 : Int32) (μ9 : Mm), bd_X12_crossings_37  x1 x2 x3 x4 μ = .inl (y1, y2, y3, y4, μ9) → J E G 3 mX12_crossings Q 37 [(0, rf E 49), (1, .int y1), (2, .int y2), (3, .int y3), (4, .int y4)] [] μ9 := fun y1 y2 y3 y4 μ9 h => k1 (y1, y2, y3, y4, μ9) h
  have kx : ∀ (y1 : Int32) (y2 : Int32) (y3 : Int32) (μ9 : Mm), bd_X12_crossings_37  x1 x2 x3 x4 μ = .inr (y1, y2, y3, μ9) → J E G 3 mX12_crossings Q 90 [(0, rf E 49), (1, .int y1), (2, .int y2), (3, .int y3)] [] μ9 := fun y1 y2 y3 μ9 h => k2 (y1, y2, y3, μ9) h
  clear k1 k2
  refine J_iload (dk okX12_crossings 23 rfl) 4 rfl ?_
  refine J_bipush (v := 9) (dk okX12_crossings 24 rfl) (by decide) ?_
  refine J_icmp_gt (tgt := 90) (dk okX12_crossings 25 rfl) (by decide) (fun h1 => ?_) (fun h1 => ?_)
  · exact J_sub [0, 1, 2, 3] rfl (kx x1 x2 x3 μ (by unfold bd_X12_crossings_37; first | (simp only [if_pos h1]; done) | (simp only [if_pos h1]; rfl) | rfl))
  · have t := t h1
    refine J_iload_n (dk okX12_crossings 26 rfl) 3 rfl rfl ?_
    refine J_iload (dk okX12_crossings 27 rfl) 4 rfl ?_
    refine J_iload_n (dk okX12_crossings 28 rfl) 1 rfl rfl ?_
    obtain ⟨s2, t⟩ := t
    refine J_callSi (As := [.int x3, .int x4, .int x1]) (dk okX12_crossings 29 rfl) skX12_isRest lkX12_435 rfl rfl (Nat.le_of_ble_eq_true rfl) (by decide) (con_X12_isRest s2 ⟨_, rfl, ?_⟩)
    have K14 : J E G 3 mX12_crossings Q 84 [(0, rf E 49), (1, .int x1), (2, .int (if (v_X12_isRest x3 x4 x1 μ) = 0 then x2 else (if (v_X12_isRest x4 x3 x1 μ) = 0 then x2 else (x2 + 1) : Int32) : Int32)), (3, .int x3), (4, .int x4)] [] (if (v_X12_isRest x3 x4 x1 μ) = 0 then μ else (if (v_X12_isRest x4 x3 x1 μ) = 0 then μ else ((if x2 = 0 then ((e_X12_enters (Int32.toInt64 x4) ((e_X12_enters (Int32.toInt64 x3) μ)))) else μ : Mm)) : Mm) : Mm) := by
      refine J_nm (fun μ13 eμ13 => ?_)
      refine J_iinc (v := (x4 + 1)) (ls' := [(4, _), (0, _), (1, _), (2, _), (3, _)]) (dk okX12_crossings 47 rfl) 4 rfl rfl (by decide) rfl ?_
      refine J_goto (tgt := 37) (dk okX12_crossings 48 rfl) (by decide) ?_
      exact J_sub [1, 2, 3, 4, 0] rfl (kb x1 (if (v_X12_isRest x3 x4 x1 μ) = 0 then x2 else (if (v_X12_isRest x4 x3 x1 μ) = 0 then x2 else (x2 + 1) : Int32) : Int32) x3 (x4 + 1) μ13 (by subst eμ13; unfold bd_X12_crossings_37; first | (simp only [if_neg h1]; done) | (simp only [if_neg h1]; rfl) | rfl))
    refine J_if_eq (tgt := 84) (dk okX12_crossings 30 rfl) (by decide) (fun h3 => ?_) (fun h3 => ?_)
    · refine J_sub (ls' := [(0, _), (1, _), (2, _), (3, _), (4, _)]) [0, 1, 2, 3, 4] rfl ?_
      (try simp only [if_pos h3] at K14 ⊢); exact K14
    · have t := t h3
      refine J_iload (dk okX12_crossings 31 rfl) 4 rfl ?_
      refine J_iload_n (dk okX12_crossings 32 rfl) 3 rfl rfl ?_
      refine J_iload_n (dk okX12_crossings 33 rfl) 1 rfl rfl ?_
      obtain ⟨s4, t⟩ := t
      refine J_callSi (As := [.int x4, .int x3, .int x1]) (dk okX12_crossings 34 rfl) skX12_isRest lkX12_435 rfl rfl (Nat.le_of_ble_eq_true rfl) (by decide) (con_X12_isRest s4 ⟨_, rfl, ?_⟩)
      refine J_if_eq (tgt := 84) (dk okX12_crossings 35 rfl) (by decide) (fun h5 => ?_) (fun h5 => ?_)
      · refine J_sub (ls' := [(0, _), (1, _), (2, _), (3, _), (4, _)]) [0, 1, 2, 3, 4] rfl ?_
        (try simp only [if_neg h3, if_pos h5] at K14 ⊢); exact K14
      · have t := t h5
        refine J_iload_n (dk okX12_crossings 36 rfl) 2 rfl rfl ?_
        have K12 : J E G 3 mX12_crossings Q 81 [(0, rf E 49), (1, .int x1), (2, .int x2), (3, .int x3), (4, .int x4)] [] (if x2 = 0 then ((e_X12_enters (Int32.toInt64 x4) ((e_X12_enters (Int32.toInt64 x3) μ)))) else μ : Mm) := by
          refine J_nm (fun μ11 eμ11 => ?_)
          refine J_iinc (v := (x2 + 1)) (ls' := [(2, _), (0, _), (1, _), (3, _), (4, _)]) (dk okX12_crossings 46 rfl) 2 rfl rfl (by decide) rfl ?_
          subst eμ11
          refine J_sub (ls' := [(0, _), (1, _), (2, _), (3, _), (4, _)]) [1, 2, 0, 3, 4] rfl ?_
          (try simp only [if_neg h3, if_neg h5] at K14 ⊢); exact K14
        refine J_if_ne (tgt := 81) (dk okX12_crossings 37 rfl) (by decide) (fun h6 => ?_) (fun h6 => ?_)
        · refine J_sub (ls' := [(0, _), (1, _), (2, _), (3, _), (4, _)]) [0, 1, 2, 3, 4] rfl ?_
          (try simp only [if_neg h6] at K12 ⊢); exact K12
        · have t := t h6
          refine J_aload_n (dk okX12_crossings 38 rfl) 0 rfl rfl ?_
          refine J_iload_n (dk okX12_crossings 39 rfl) 3 rfl rfl ?_
          refine J_i2l (dk okX12_crossings 40 rfl) ?_
          obtain ⟨s7, t⟩ := t
          refine J_callVv (As := [.long (Int32.toInt64 x3)]) (dk okX12_crossings 41 rfl) ds_49 rfl vkX12_enters lkX12_18 rfl rfl (Nat.le_of_ble_eq_true rfl) (by decide) (con_X12_enters s7 ⟨rfl, ?_⟩)
          refine J_nm (fun μ8 eμ8 => ?_)
          have t := t μ8 eμ8
          refine J_aload_n (dk okX12_crossings 42 rfl) 0 rfl rfl ?_
          refine J_iload (dk okX12_crossings 43 rfl) 4 rfl ?_
          refine J_i2l (dk okX12_crossings 44 rfl) ?_
          have s9 := t
          refine J_callVv (As := [.long (Int32.toInt64 x4)]) (dk okX12_crossings 45 rfl) ds_49 rfl vkX12_enters lkX12_18 rfl rfl (Nat.le_of_ble_eq_true rfl) (by decide) (con_X12_enters s9 ⟨rfl, ?_⟩)
          refine J_nm (fun μ10 eμ10 => ?_)
          subst eμ10 eμ8
          refine J_sub (ls' := [(0, _), (1, _), (2, _), (3, _), (4, _)]) [0, 1, 2, 3, 4] rfl ?_
          (try simp only [if_pos h6] at K12 ⊢); exact K12
noncomputable def bd_X12_crossings_28  (x1 : Int32) (x2 : Int32) (x3 : Int32) (μ : Mm) : (Int32 × Int32 × Int32 × Mm) ⊕ (Int32 × Mm) := (if 9 < x3 then .inr (x2, μ) else (let r3 : Int32 × Int32 × Int32 × Mm := whl (fun s : Int32 × Int32 × Int32 × Int32 × Mm => bd_X12_crossings_37  s.1 s.2.1 s.2.2.1 s.2.2.2.1 s.2.2.2.2) (fun s : Int32 × Int32 × Int32 × Int32 × Mm => (0, 0, 0, s.2.2.2.2)) FU (x1, x2, x3, 0, μ); .inl ((r3.1), (r3.2.1), ((r3.2.2.1) + 1), (r3.2.2.2))))
def sd_X12_crossings_28   (x1 : Int32) (x2 : Int32) (x3 : Int32) (μ : Mm) : Prop := (¬ (9 < x3) → whP (fun s : Int32 × Int32 × Int32 × Int32 × Mm => bd_X12_crossings_37  s.1 s.2.1 s.2.2.1 s.2.2.2.1 s.2.2.2.2) (fun s : Int32 × Int32 × Int32 × Int32 × Mm => sd_X12_crossings_37   s.1 s.2.1 s.2.2.1 s.2.2.2.1 s.2.2.2.2) FU (x1, x2, x3, 0, μ))
set_option maxRecDepth 20000 in
set_option maxHeartbeats 4000000 in
theorem lw_X12_crossings_28 {E : Ex} {G : Gx} {Q : Option Value → Mm → Prop} {x1 : Int32} {x2 : Int32} {x3 : Int32} {μ : Mm}  (p : whP (fun s : Int32 × Int32 × Int32 × Mm => bd_X12_crossings_28  s.1 s.2.1 s.2.2.1 s.2.2.2) (fun s : Int32 × Int32 × Int32 × Mm => sd_X12_crossings_28   s.1 s.2.1 s.2.2.1 s.2.2.2) FU (x1, x2, x3, μ)) (k : ∀ r : Int32 × Mm, r = whl (fun s : Int32 × Int32 × Int32 × Mm => bd_X12_crossings_28  s.1 s.2.1 s.2.2.1 s.2.2.2) (fun s : Int32 × Int32 × Int32 × Mm => (0, s.2.2.2)) FU (x1, x2, x3, μ) → J E G 3 mX12_crossings Q 96 [(2, .int (r.1))] [] (r.2)) : J E G 3 mX12_crossings Q 28 [(0, rf E 49), (1, .int x1), (2, .int x2), (3, .int x3)] [] μ := by
  refine J_whl (f := (fun s : Int32 × Int32 × Int32 × Mm => bd_X12_crossings_28  s.1 s.2.1 s.2.2.1 s.2.2.2)) (dd := (fun s : Int32 × Int32 × Int32 × Mm => (0, s.2.2.2))) (sd := (fun s : Int32 × Int32 × Int32 × Mm => sd_X12_crossings_28   s.1 s.2.1 s.2.2.1 s.2.2.2)) (P := fun s : Int32 × Int32 × Int32 × Mm => J E G 3 mX12_crossings Q 28 [(0, rf E 49), (1, .int (s.1)), (2, .int (s.2.1)), (3, .int (s.2.2.1))] [] (s.2.2.2)) (R := fun r : Int32 × Mm => J E G 3 mX12_crossings Q 96 [(2, .int (r.1))] [] (r.2)) ?_ FU (x1, x2, x3, μ) p (k _ rfl)
  clear p k
  rintro ⟨x1, x2, x3, μ⟩ t k1 k2
  dsimp only [sd_X12_crossings_28] at t
  have kb : ∀ (y1 : Int32) (y2 : Int32) (y3 : Int32) (μ9 : Mm), bd_X12_crossings_28  x1 x2 x3 μ = .inl (y1, y2, y3, μ9) → J E G 3 mX12_crossings Q 28 [(0, rf E 49), (1, .int y1), (2, .int y2), (3, .int y3)] [] μ9 := fun y1 y2 y3 μ9 h => k1 (y1, y2, y3, μ9) h
  have kx : ∀ (y2 : Int32) (μ9 : Mm), bd_X12_crossings_28  x1 x2 x3 μ = .inr (y2, μ9) → J E G 3 mX12_crossings Q 96 [(2, .int y2)] [] μ9 := fun y2 μ9 h => k2 (y2, μ9) h
  clear k1 k2
  refine J_iload_n (dk okX12_crossings 18 rfl) 3 rfl rfl ?_
  refine J_bipush (v := 9) (dk okX12_crossings 19 rfl) (by decide) ?_
  refine J_icmp_gt (tgt := 96) (dk okX12_crossings 20 rfl) (by decide) (fun h1 => ?_) (fun h1 => ?_)
  · exact J_sub [2] rfl (kx x2 μ (by unfold bd_X12_crossings_28; first | (simp only [if_pos h1]; done) | (simp only [if_pos h1]; rfl) | rfl))
  · have t := t h1
    refine J_iconst (v := 0) (dk okX12_crossings 21 rfl) (by decide) ?_
    refine J_istore (ls' := [(4, _), (0, _), (1, _), (2, _), (3, _)]) (dk okX12_crossings 22 rfl) (by decide) rfl ?_
    have s2 := t
    refine J_sub (ls' := [(0, _), (1, _), (2, _), (3, _), (4, _)]) [1, 2, 3, 4, 0] rfl ?_
    refine lw_X12_crossings_37  s2 (fun r3 er3 => ?_)
    refine J_iinc (v := ((r3.2.2.1) + 1)) (ls' := [(3, _), (0, _), (1, _), (2, _)]) (dk okX12_crossings 49 rfl) 3 rfl rfl (by decide) rfl ?_
    refine J_goto (tgt := 28) (dk okX12_crossings 50 rfl) (by decide) ?_
    exact J_sub [1, 2, 3, 0] rfl (kb (r3.1) (r3.2.1) ((r3.2.2.1) + 1) (r3.2.2.2) (by subst er3; unfold bd_X12_crossings_28; first | (simp only [if_neg h1]; done) | (simp only [if_neg h1]; rfl) | rfl))
/-- VotingFloorModel.crossings(I)I -/
noncomputable def v_X12_crossings (p0 : Int32) (μ : Mm) : Int32 := (let μ1 : Mm := (upI μ 49 0 0); (if (v_X12_in (Int32.toInt64 p0) 0 20) = 0 then (-1) else (let μ3 : Mm := (upI μ1 49 1 0); (let r5 : Int32 × Mm := whl (fun s : Int32 × Int32 × Int32 × Mm => bd_X12_crossings_28  s.1 s.2.1 s.2.2.1 s.2.2.2) (fun s : Int32 × Int32 × Int32 × Mm => (0, s.2.2.2)) FU (p0, 0, 0, μ3); (r5.1)))))
noncomputable def e_X12_crossings (p0 : Int32) (μ : Mm) : Mm := (let μ1 : Mm := (upI μ 49 0 0); (if (v_X12_in (Int32.toInt64 p0) 0 20) = 0 then μ1 else (let μ3 : Mm := (upI μ1 49 1 0); (let r5 : Int32 × Mm := whl (fun s : Int32 × Int32 × Int32 × Mm => bd_X12_crossings_28  s.1 s.2.1 s.2.2.1 s.2.2.2) (fun s : Int32 × Int32 × Int32 × Mm => (0, s.2.2.2)) FU (p0, 0, 0, μ3); (r5.2)))))
def p_X12_crossings (p0 : Int32)  (μ : Mm) : Prop := (∀ μ1 : Mm, μ1 = (upI μ 49 0 0) → (¬ ((v_X12_in (Int32.toInt64 p0) 0 20) = 0) → (∀ μ3 : Mm, μ3 = (upI μ1 49 1 0) → whP (fun s : Int32 × Int32 × Int32 × Mm => bd_X12_crossings_28  s.1 s.2.1 s.2.2.1 s.2.2.2) (fun s : Int32 × Int32 × Int32 × Mm => sd_X12_crossings_28   s.1 s.2.1 s.2.2.1 s.2.2.2) FU (p0, 0, 0, μ3))))
set_option maxRecDepth 20000 in
set_option maxHeartbeats 4000000 in
theorem con_X12_crossings {E : Ex} {Q : Option Value → Mm → Prop} {p0 : Int32} {μ : Mm} (t : p_X12_crossings p0  μ) (k : Q (some (.int (v_X12_crossings p0 μ))) (e_X12_crossings p0 μ)) : Con E 3 mX12_crossings [rf E 49, .int p0] μ Q := by
  refine Con_J (by decide +kernel) (Nat.le_of_ble_eq_true rfl) (fun G => ?_)
  unfold v_X12_crossings e_X12_crossings at k
  unfold p_X12_crossings at t
  refine J_sub (ls' := [(0, rf E 49), (1, .int p0)]) [0, 1] rfl ?_
  refine J_aload_n (dk okX12_crossings 0 rfl) 0 rfl rfl ?_
  refine J_iconst (v := 0) (dk okX12_crossings 1 rfl) (by decide) ?_
  refine J_put (dk okX12_crossings 2 rfl) kpX12_3 ds_49 rfl rfl rfl ?_
  refine J_nm (fun μ1 eμ1 => ?_)
  have t := t μ1 eμ1
  refine J_iload_n (dk okX12_crossings 3 rfl) 1 rfl rfl ?_
  refine J_i2l (dk okX12_crossings 4 rfl) ?_
  refine J_lconst (v := 0) (dk okX12_crossings 5 rfl) (by decide) ?_
  refine J_ldc2 (v := 20) (dk okX12_crossings 6 rfl) kcX12_389 ?_
  refine J_callSi (As := [.long (Int32.toInt64 p0), .long 0, .long 20]) (dk okX12_crossings 7 rfl) skX12_in lkX12_114 rfl rfl (Nat.le_of_ble_eq_true rfl) (by decide) (con_X12_in  ⟨_, rfl, ?_⟩)
  refine J_if_ne (tgt := 19) (dk okX12_crossings 8 rfl) (by decide) (fun h2 => ?_) (fun h2 => ?_)
  · have t := t h2
    refine J_iconst (v := 0) (dk okX12_crossings 11 rfl) (by decide) ?_
    refine J_istore_n (ls' := [(2, _), (0, _), (1, _)]) (dk okX12_crossings 12 rfl) rfl (by decide) rfl ?_
    refine J_aload_n (dk okX12_crossings 13 rfl) 1 rfl rfl ?_
    refine J_iconst (v := 0) (dk okX12_crossings 14 rfl) (by decide) ?_
    refine J_put (dk okX12_crossings 15 rfl) kpX12_15 ds_49 rfl rfl rfl ?_
    refine J_nm (fun μ3 eμ3 => ?_)
    have t := t μ3 eμ3
    refine J_iconst (v := 0) (dk okX12_crossings 16 rfl) (by decide) ?_
    refine J_istore_n (ls' := [(3, _), (2, _), (0, _), (1, _)]) (dk okX12_crossings 17 rfl) rfl (by decide) rfl ?_
    have s4 := t
    refine J_sub (ls' := [(0, _), (1, _), (2, _), (3, _)]) [2, 3, 1, 0] rfl ?_
    refine lw_X12_crossings_28  s4 (fun r5 er5 => ?_)
    refine J_iload_n (dk okX12_crossings 51 rfl) 0 rfl rfl ?_
    subst er5 eμ3 eμ1
    (try simp only [if_neg h2] at k ⊢)
    exact J_iret (dk okX12_crossings 52 rfl) rfl k
  · refine J_iconst (v := (-1)) (dk okX12_crossings 9 rfl) (by decide) ?_
    subst eμ1
    (try simp only [if_pos h2] at k ⊢)
    exact J_iret (dk okX12_crossings 10 rfl) rfl k
noncomputable def bd_X12_decidedBy_35  (μ : Mm) (x1 : Int32) (x2 : Int32) (x3 : Int32) (x4 : Int32) (x5 : Int32) (x6 : Int32) : (Int32 × Int32 × Int32 × Int32 × Int32 × Int32) ⊕ (Int32 × Int32 × Int32 × Int32 × Int32) := (if (μ.1 49 3) ≤ x6 then .inr (x1, x2, x3, x4, x5) else .inl (x1, x2, x3, x4, (x5 + (if (v_X12_has x2 x6) = 0 then 0 else (if (v_X12_has x4 x6) = 0 then (-(v_X12_force x6 μ)) else (v_X12_force x6 μ) : Int32) : Int32)), (x6 + 1)))
def sd_X12_decidedBy_35   (μ : Mm) (x1 : Int32) (x2 : Int32) (x3 : Int32) (x4 : Int32) (x5 : Int32) (x6 : Int32) : Prop := (¬ ((μ.1 49 3) ≤ x6) → (¬ ((v_X12_has x2 x6) = 0) → (((v_X12_has x4 x6) = 0 → p_X12_force x6) ∧ (¬ ((v_X12_has x4 x6) = 0) → p_X12_force x6))))
set_option maxRecDepth 20000 in
set_option maxHeartbeats 4000000 in
theorem lw_X12_decidedBy_35 {E : Ex} {G : Gx} {Q : Option Value → Mm → Prop} {x1 : Int32} {x2 : Int32} {x3 : Int32} {x4 : Int32} {x5 : Int32} {x6 : Int32} {μ : Mm}  (p : whP (fun s : Int32 × Int32 × Int32 × Int32 × Int32 × Int32 => bd_X12_decidedBy_35  μ s.1 s.2.1 s.2.2.1 s.2.2.2.1 s.2.2.2.2.1 s.2.2.2.2.2) (fun s : Int32 × Int32 × Int32 × Int32 × Int32 × Int32 => sd_X12_decidedBy_35   μ s.1 s.2.1 s.2.2.1 s.2.2.2.1 s.2.2.2.2.1 s.2.2.2.2.2) FU (x1, x2, x3, x4, x5, x6)) (k : ∀ r : Int32 × Int32 × Int32 × Int32 × Int32, r = whl (fun s : Int32 × Int32 × Int32 × Int32 × Int32 × Int32 => bd_X12_decidedBy_35  μ s.1 s.2.1 s.2.2.1 s.2.2.2.1 s.2.2.2.2.1 s.2.2.2.2.2) (fun _ : Int32 × Int32 × Int32 × Int32 × Int32 × Int32 => (0, 0, 0, 0, 0)) FU (x1, x2, x3, x4, x5, x6) → J E G 3 mX12_decidedBy Q 94 [(0, rf E 49), (1, .int (r.1)), (2, .int (r.2.1)), (3, .int (r.2.2.1)), (4, .int (r.2.2.2.1)), (5, .int (r.2.2.2.2))] [] μ) : J E G 3 mX12_decidedBy Q 35 [(0, rf E 49), (1, .int x1), (2, .int x2), (3, .int x3), (4, .int x4), (5, .int x5), (6, .int x6)] [] μ := by
  refine J_whl (f := (fun s : Int32 × Int32 × Int32 × Int32 × Int32 × Int32 => bd_X12_decidedBy_35  μ s.1 s.2.1 s.2.2.1 s.2.2.2.1 s.2.2.2.2.1 s.2.2.2.2.2)) (dd := (fun _ : Int32 × Int32 × Int32 × Int32 × Int32 × Int32 => (0, 0, 0, 0, 0))) (sd := (fun s : Int32 × Int32 × Int32 × Int32 × Int32 × Int32 => sd_X12_decidedBy_35   μ s.1 s.2.1 s.2.2.1 s.2.2.2.1 s.2.2.2.2.1 s.2.2.2.2.2)) (P := fun s : Int32 × Int32 × Int32 × Int32 × Int32 × Int32 => J E G 3 mX12_decidedBy Q 35 [(0, rf E 49), (1, .int (s.1)), (2, .int (s.2.1)), (3, .int (s.2.2.1)), (4, .int (s.2.2.2.1)), (5, .int (s.2.2.2.2.1)), (6, .int (s.2.2.2.2.2))] [] (μ)) (R := fun r : Int32 × Int32 × Int32 × Int32 × Int32 => J E G 3 mX12_decidedBy Q 94 [(0, rf E 49), (1, .int (r.1)), (2, .int (r.2.1)), (3, .int (r.2.2.1)), (4, .int (r.2.2.2.1)), (5, .int (r.2.2.2.2))] [] μ) ?_ FU (x1, x2, x3, x4, x5, x6) p (k _ rfl)
  clear p k
  rintro ⟨x1, x2, x3, x4, x5, x6⟩ t k1 k2
  dsimp only [sd_X12_decidedBy_35] at t
  have kb : ∀ (y1 : Int32) (y2 : Int32) (y3 : Int32) (y4 : Int32) (y5 : Int32) (y6 : Int32) , bd_X12_decidedBy_35  μ x1 x2 x3 x4 x5 x6 = .inl (y1, y2, y3, y4, y5, y6) → J E G 3 mX12_decidedBy Q 35 [(0, rf E 49), (1, .int y1), (2, .int y2), (3, .int y3), (4, .int y4), (5, .int y5), (6, .int y6)] [] μ := fun y1 y2 y3 y4 y5 y6  h => k1 (y1, y2, y3, y4, y5, y6) h
  have kx : ∀ (y1 : Int32) (y2 : Int32) (y3 : Int32) (y4 : Int32) (y5 : Int32) , bd_X12_decidedBy_35  μ x1 x2 x3 x4 x5 x6 = .inr (y1, y2, y3, y4, y5) → J E G 3 mX12_decidedBy Q 94 [(0, rf E 49), (1, .int y1), (2, .int y2), (3, .int y3), (4, .int y4), (5, .int y5)] [] μ := fun y1 y2 y3 y4 y5  h => k2 (y1, y2, y3, y4, y5) h
  clear k1 k2
  refine J_iload (dk okX12_decidedBy 23 rfl) 6 rfl ?_
  refine J_aload_n (dk okX12_decidedBy 24 rfl) 0 rfl rfl ?_
  refine J_getI (dk okX12_decidedBy 25 rfl) kfX12_111 ds_49 rfl ?_
  refine J_icmp_ge (tgt := 94) (dk okX12_decidedBy 26 rfl) (by decide) (fun h1 => ?_) (fun h1 => ?_)
  · exact J_sub [0, 1, 2, 3, 4, 5] rfl (kx x1 x2 x3 x4 x5 (by unfold bd_X12_decidedBy_35; first | (simp only [if_pos h1]; done) | (simp only [if_pos h1]; rfl) | rfl))
  · have t := t h1
    refine J_iload (dk okX12_decidedBy 27 rfl) 5 rfl ?_
    refine J_iload_n (dk okX12_decidedBy 28 rfl) 2 rfl rfl ?_
    refine J_iload (dk okX12_decidedBy 29 rfl) 6 rfl ?_
    refine J_callSi (As := [.int x2, .int x6]) (dk okX12_decidedBy 30 rfl) skX12_has lkX12_126 rfl rfl (Nat.le_of_ble_eq_true rfl) (by decide) (con_X12_has  ⟨_, rfl, ?_⟩)
    have K6 : J E G 3 mX12_decidedBy Q 85 [(0, rf E 49), (1, .int x1), (2, .int x2), (3, .int x3), (4, .int x4), (6, .int x6)] [.int (if (v_X12_has x2 x6) = 0 then 0 else (if (v_X12_has x4 x6) = 0 then (-(v_X12_force x6 μ)) else (v_X12_force x6 μ) : Int32) : Int32), .int x5] μ := by
      refine J_iadd (dk okX12_decidedBy 46 rfl) ?_
      refine J_istore (ls' := [(5, _), (0, _), (1, _), (2, _), (3, _), (4, _), (6, _)]) (dk okX12_decidedBy 47 rfl) (by decide) rfl ?_
      refine J_iinc (v := (x6 + 1)) (ls' := [(6, _), (5, _), (0, _), (1, _), (2, _), (3, _), (4, _)]) (dk okX12_decidedBy 48 rfl) 6 rfl rfl (by decide) rfl ?_
      refine J_goto (tgt := 35) (dk okX12_decidedBy 49 rfl) (by decide) ?_
      exact J_sub [2, 3, 4, 5, 6, 1, 0] rfl (kb x1 x2 x3 x4 (x5 + (if (v_X12_has x2 x6) = 0 then 0 else (if (v_X12_has x4 x6) = 0 then (-(v_X12_force x6 μ)) else (v_X12_force x6 μ) : Int32) : Int32)) (x6 + 1) (by unfold bd_X12_decidedBy_35; first | (simp only [if_neg h1]; done) | (simp only [if_neg h1]; rfl) | rfl))
    refine J_if_ne (tgt := 59) (dk okX12_decidedBy 31 rfl) (by decide) (fun h2 => ?_) (fun h2 => ?_)
    · have t := t h2
      refine J_iload (dk okX12_decidedBy 34 rfl) 4 rfl ?_
      refine J_iload (dk okX12_decidedBy 35 rfl) 6 rfl ?_
      refine J_callSi (As := [.int x4, .int x6]) (dk okX12_decidedBy 36 rfl) skX12_has lkX12_126 rfl rfl (Nat.le_of_ble_eq_true rfl) (by decide) (con_X12_has  ⟨_, rfl, ?_⟩)
      refine J_if_eq (tgt := 78) (dk okX12_decidedBy 37 rfl) (by decide) (fun h3 => ?_) (fun h3 => ?_)
      · have t := t.1 h3
        refine J_aload_n (dk okX12_decidedBy 42 rfl) 0 rfl rfl ?_
        refine J_iload (dk okX12_decidedBy 43 rfl) 6 rfl ?_
        have s4 := t
        refine J_callVi (As := [.int x6]) (dk okX12_decidedBy 44 rfl) ds_49 rfl vkX12_force lkX12_374 rfl rfl (Nat.le_of_ble_eq_true rfl) (by decide) (con_X12_force s4 ⟨_, rfl, ?_⟩)
        refine J_ineg (dk okX12_decidedBy 45 rfl) ?_
        refine J_sub (ls' := [(0, _), (1, _), (2, _), (3, _), (4, _), (6, _)]) [0, 1, 2, 3, 4, 6] rfl ?_
        (try simp only [if_neg h2, if_pos h3] at K6 ⊢); exact K6
      · have t := t.2 h3
        refine J_aload_n (dk okX12_decidedBy 38 rfl) 0 rfl rfl ?_
        refine J_iload (dk okX12_decidedBy 39 rfl) 6 rfl ?_
        have s5 := t
        refine J_callVi (As := [.int x6]) (dk okX12_decidedBy 40 rfl) ds_49 rfl vkX12_force lkX12_374 rfl rfl (Nat.le_of_ble_eq_true rfl) (by decide) (con_X12_force s5 ⟨_, rfl, ?_⟩)
        refine J_goto (tgt := 85) (dk okX12_decidedBy 41 rfl) (by decide) ?_
        refine J_sub (ls' := [(0, _), (1, _), (2, _), (3, _), (4, _), (6, _)]) [0, 1, 2, 3, 4, 6] rfl ?_
        (try simp only [if_neg h2, if_neg h3] at K6 ⊢); exact K6
    · refine J_iconst (v := 0) (dk okX12_decidedBy 32 rfl) (by decide) ?_
      refine J_goto (tgt := 85) (dk okX12_decidedBy 33 rfl) (by decide) ?_
      refine J_sub (ls' := [(0, _), (1, _), (2, _), (3, _), (4, _), (6, _)]) [0, 1, 2, 3, 4, 6] rfl ?_
      (try simp only [if_pos h2] at K6 ⊢); exact K6
noncomputable def bd_X12_decidedBy_20  (μ : Mm) (x1 : Int32) (x2 : Int32) (x3 : Int32) (x4 : Int32) : (Int32 × Int32 × Int32 × Int32) ⊕ (Int32) := (if (v_X12_all  μ) < x4 then .inr x3 else (let r3 : Int32 × Int32 × Int32 × Int32 × Int32 := whl (fun s : Int32 × Int32 × Int32 × Int32 × Int32 × Int32 => bd_X12_decidedBy_35  μ s.1 s.2.1 s.2.2.1 s.2.2.2.1 s.2.2.2.2.1 s.2.2.2.2.2) (fun _ : Int32 × Int32 × Int32 × Int32 × Int32 × Int32 => (0, 0, 0, 0, 0)) FU (x1, x2, x3, x4, 0, 0); .inl ((r3.1), (r3.2.1), ((r3.2.2.1) + (v_X12_flag (if ((r3.2.2.2.1) &&& ((r3.2.1) ^^^ (-1))) = 0 then (if ((r3.2.2.2.2) + (v_X12_force (r3.1) μ)) ≤ 0 then 0 else (if 0 < ((r3.2.2.2.2) - (v_X12_force (r3.1) μ)) then 0 else 1 : Int32) : Int32) else 0 : Int32))), ((r3.2.2.2.1) + 1))))
def sd_X12_decidedBy_20   (μ : Mm) (x1 : Int32) (x2 : Int32) (x3 : Int32) (x4 : Int32) : Prop := (¬ ((v_X12_all  μ) < x4) → (whP (fun s : Int32 × Int32 × Int32 × Int32 × Int32 × Int32 => bd_X12_decidedBy_35  μ s.1 s.2.1 s.2.2.1 s.2.2.2.1 s.2.2.2.2.1 s.2.2.2.2.2) (fun s : Int32 × Int32 × Int32 × Int32 × Int32 × Int32 => sd_X12_decidedBy_35   μ s.1 s.2.1 s.2.2.1 s.2.2.2.1 s.2.2.2.2.1 s.2.2.2.2.2) FU (x1, x2, x3, x4, 0, 0)) ∧ (∀ r3 : Int32 × Int32 × Int32 × Int32 × Int32, r3 = whl (fun s : Int32 × Int32 × Int32 × Int32 × Int32 × Int32 => bd_X12_decidedBy_35  μ s.1 s.2.1 s.2.2.1 s.2.2.2.1 s.2.2.2.2.1 s.2.2.2.2.2) (fun _ : Int32 × Int32 × Int32 × Int32 × Int32 × Int32 => (0, 0, 0, 0, 0)) FU (x1, x2, x3, x4, 0, 0) → (((r3.2.2.2.1) &&& ((r3.2.1) ^^^ (-1))) = 0 → (p_X12_force (r3.1)) ∧ (¬ (((r3.2.2.2.2) + (v_X12_force (r3.1) μ)) ≤ 0) → p_X12_force (r3.1)))))
set_option maxRecDepth 20000 in
set_option maxHeartbeats 4000000 in
theorem lw_X12_decidedBy_20 {E : Ex} {G : Gx} {Q : Option Value → Mm → Prop} {x1 : Int32} {x2 : Int32} {x3 : Int32} {x4 : Int32} {μ : Mm}  (p : whP (fun s : Int32 × Int32 × Int32 × Int32 => bd_X12_decidedBy_20  μ s.1 s.2.1 s.2.2.1 s.2.2.2) (fun s : Int32 × Int32 × Int32 × Int32 => sd_X12_decidedBy_20   μ s.1 s.2.1 s.2.2.1 s.2.2.2) FU (x1, x2, x3, x4)) (k : ∀ r : Int32, r = whl (fun s : Int32 × Int32 × Int32 × Int32 => bd_X12_decidedBy_20  μ s.1 s.2.1 s.2.2.1 s.2.2.2) (fun _ : Int32 × Int32 × Int32 × Int32 => 0) FU (x1, x2, x3, x4) → J E G 3 mX12_decidedBy Q 142 [(3, .int r)] [] μ) : J E G 3 mX12_decidedBy Q 20 [(0, rf E 49), (1, .int x1), (2, .int x2), (3, .int x3), (4, .int x4)] [] μ := by
  refine J_whl (f := (fun s : Int32 × Int32 × Int32 × Int32 => bd_X12_decidedBy_20  μ s.1 s.2.1 s.2.2.1 s.2.2.2)) (dd := (fun _ : Int32 × Int32 × Int32 × Int32 => 0)) (sd := (fun s : Int32 × Int32 × Int32 × Int32 => sd_X12_decidedBy_20   μ s.1 s.2.1 s.2.2.1 s.2.2.2)) (P := fun s : Int32 × Int32 × Int32 × Int32 => J E G 3 mX12_decidedBy Q 20 [(0, rf E 49), (1, .int (s.1)), (2, .int (s.2.1)), (3, .int (s.2.2.1)), (4, .int (s.2.2.2))] [] (μ)) (R := fun r : Int32 => J E G 3 mX12_decidedBy Q 142 [(3, .int r)] [] μ) ?_ FU (x1, x2, x3, x4) p (k _ rfl)
  clear p k
  rintro ⟨x1, x2, x3, x4⟩ t k1 k2
  dsimp only [sd_X12_decidedBy_20] at t
  have kb : ∀ (y1 : Int32) (y2 : Int32) (y3 : Int32) (y4 : Int32) , bd_X12_decidedBy_20  μ x1 x2 x3 x4 = .inl (y1, y2, y3, y4) → J E G 3 mX12_decidedBy Q 20 [(0, rf E 49), (1, .int y1), (2, .int y2), (3, .int y3), (4, .int y4)] [] μ := fun y1 y2 y3 y4  h => k1 (y1, y2, y3, y4) h
  have kx : ∀ (y3 : Int32) , bd_X12_decidedBy_20  μ x1 x2 x3 x4 = .inr y3 → J E G 3 mX12_decidedBy Q 142 [(3, .int y3)] [] μ := fun y3  h => k2 y3 h
  clear k1 k2
  refine J_iload (dk okX12_decidedBy 15 rfl) 4 rfl ?_
  refine J_aload_n (dk okX12_decidedBy 16 rfl) 0 rfl rfl ?_
  refine J_callVi (As := []) (dk okX12_decidedBy 17 rfl) ds_49 rfl vkX12_all lkX12_118 rfl rfl (Nat.le_of_ble_eq_true rfl) (by decide) (con_X12_all  ⟨_, rfl, ?_⟩)
  refine J_icmp_gt (tgt := 142) (dk okX12_decidedBy 18 rfl) (by decide) (fun h1 => ?_) (fun h1 => ?_)
  · exact J_sub [3] rfl (kx x3 (by unfold bd_X12_decidedBy_20; first | (simp only [if_pos h1]; done) | (simp only [if_pos h1]; rfl) | rfl))
  · have t := t h1
    refine J_iconst (v := 0) (dk okX12_decidedBy 19 rfl) (by decide) ?_
    refine J_istore (ls' := [(5, _), (0, _), (1, _), (2, _), (3, _), (4, _)]) (dk okX12_decidedBy 20 rfl) (by decide) rfl ?_
    refine J_iconst (v := 0) (dk okX12_decidedBy 21 rfl) (by decide) ?_
    refine J_istore (ls' := [(6, _), (5, _), (0, _), (1, _), (2, _), (3, _), (4, _)]) (dk okX12_decidedBy 22 rfl) (by decide) rfl ?_
    obtain ⟨s2, t⟩ := t
    refine J_sub (ls' := [(0, _), (1, _), (2, _), (3, _), (4, _), (5, _), (6, _)]) [2, 3, 4, 5, 6, 1, 0] rfl ?_
    refine lw_X12_decidedBy_35  s2 (fun r3 er3 => ?_)
    have t := t r3 er3
    refine J_iload_n (dk okX12_decidedBy 50 rfl) 3 rfl rfl ?_
    refine J_iload (dk okX12_decidedBy 51 rfl) 4 rfl ?_
    refine J_iload_n (dk okX12_decidedBy 52 rfl) 2 rfl rfl ?_
    refine J_iconst (v := (-1)) (dk okX12_decidedBy 53 rfl) (by decide) ?_
    refine J_ixor (dk okX12_decidedBy 54 rfl) ?_
    refine J_iand (dk okX12_decidedBy 55 rfl) ?_
    have K9 : J E G 3 mX12_decidedBy Q 131 [(0, rf E 49), (1, .int (r3.1)), (2, .int (r3.2.1)), (4, .int (r3.2.2.2.1))] [.int (if ((r3.2.2.2.1) &&& ((r3.2.1) ^^^ (-1))) = 0 then (if ((r3.2.2.2.2) + (v_X12_force (r3.1) μ)) ≤ 0 then 0 else (if 0 < ((r3.2.2.2.2) - (v_X12_force (r3.1) μ)) then 0 else 1 : Int32) : Int32) else 0 : Int32), .int (r3.2.2.1)] μ := by
      refine J_callSi (As := [.int (if ((r3.2.2.2.1) &&& ((r3.2.1) ^^^ (-1))) = 0 then (if ((r3.2.2.2.2) + (v_X12_force (r3.1) μ)) ≤ 0 then 0 else (if 0 < ((r3.2.2.2.2) - (v_X12_force (r3.1) μ)) then 0 else 1 : Int32) : Int32) else 0 : Int32)]) (dk okX12_decidedBy 72 rfl) skX12_flag lkX12_137 rfl rfl (Nat.le_of_ble_eq_true rfl) (by decide) (con_X12_flag  ⟨_, rfl, ?_⟩)
      refine J_iadd (dk okX12_decidedBy 73 rfl) ?_
      refine J_istore_n (ls' := [(3, _), (0, _), (1, _), (2, _), (4, _)]) (dk okX12_decidedBy 74 rfl) rfl (by decide) rfl ?_
      refine J_iinc (v := ((r3.2.2.2.1) + 1)) (ls' := [(4, _), (3, _), (0, _), (1, _), (2, _)]) (dk okX12_decidedBy 75 rfl) 4 rfl rfl (by decide) rfl ?_
      refine J_goto (tgt := 20) (dk okX12_decidedBy 76 rfl) (by decide) ?_
      exact J_sub [2, 3, 4, 1, 0] rfl (kb (r3.1) (r3.2.1) ((r3.2.2.1) + (v_X12_flag (if ((r3.2.2.2.1) &&& ((r3.2.1) ^^^ (-1))) = 0 then (if ((r3.2.2.2.2) + (v_X12_force (r3.1) μ)) ≤ 0 then 0 else (if 0 < ((r3.2.2.2.2) - (v_X12_force (r3.1) μ)) then 0 else 1 : Int32) : Int32) else 0 : Int32))) ((r3.2.2.2.1) + 1) (by subst er3; unfold bd_X12_decidedBy_20; first | (simp only [if_neg h1]; done) | (simp only [if_neg h1]; rfl) | rfl))
    refine J_if_ne (tgt := 130) (dk okX12_decidedBy 56 rfl) (by decide) (fun h4 => ?_) (fun h4 => ?_)
    · refine J_iconst (v := 0) (dk okX12_decidedBy 71 rfl) (by decide) ?_
      refine J_sub (ls' := [(0, _), (1, _), (2, _), (4, _)]) [0, 1, 2, 4] rfl ?_
      (try simp only [if_neg h4] at K9 ⊢); exact K9
    · have t := t h4
      refine J_iload (dk okX12_decidedBy 57 rfl) 5 rfl ?_
      refine J_aload_n (dk okX12_decidedBy 58 rfl) 0 rfl rfl ?_
      refine J_iload_n (dk okX12_decidedBy 59 rfl) 1 rfl rfl ?_
      obtain ⟨s5, t⟩ := t
      refine J_callVi (As := [.int (r3.1)]) (dk okX12_decidedBy 60 rfl) ds_49 rfl vkX12_force lkX12_374 rfl rfl (Nat.le_of_ble_eq_true rfl) (by decide) (con_X12_force s5 ⟨_, rfl, ?_⟩)
      refine J_iadd (dk okX12_decidedBy 61 rfl) ?_
      refine J_if_le (tgt := 130) (dk okX12_decidedBy 62 rfl) (by decide) (fun h6 => ?_) (fun h6 => ?_)
      · refine J_iconst (v := 0) (dk okX12_decidedBy 71 rfl) (by decide) ?_
        refine J_sub (ls' := [(0, _), (1, _), (2, _), (4, _)]) [0, 1, 2, 4] rfl ?_
        (try simp only [if_pos h4, if_pos h6] at K9 ⊢); exact K9
      · have t := t h6
        refine J_iload (dk okX12_decidedBy 63 rfl) 5 rfl ?_
        refine J_aload_n (dk okX12_decidedBy 64 rfl) 0 rfl rfl ?_
        refine J_iload_n (dk okX12_decidedBy 65 rfl) 1 rfl rfl ?_
        have s7 := t
        refine J_callVi (As := [.int (r3.1)]) (dk okX12_decidedBy 66 rfl) ds_49 rfl vkX12_force lkX12_374 rfl rfl (Nat.le_of_ble_eq_true rfl) (by decide) (con_X12_force s7 ⟨_, rfl, ?_⟩)
        refine J_isub (dk okX12_decidedBy 67 rfl) ?_
        refine J_if_gt (tgt := 130) (dk okX12_decidedBy 68 rfl) (by decide) (fun h8 => ?_) (fun h8 => ?_)
        · refine J_iconst (v := 0) (dk okX12_decidedBy 71 rfl) (by decide) ?_
          refine J_sub (ls' := [(0, _), (1, _), (2, _), (4, _)]) [0, 1, 2, 4] rfl ?_
          (try simp only [if_pos h4, if_neg h6, if_pos h8] at K9 ⊢); exact K9
        · refine J_iconst (v := 1) (dk okX12_decidedBy 69 rfl) (by decide) ?_
          refine J_goto (tgt := 131) (dk okX12_decidedBy 70 rfl) (by decide) ?_
          refine J_sub (ls' := [(0, _), (1, _), (2, _), (4, _)]) [0, 1, 2, 4] rfl ?_
          (try simp only [if_pos h4, if_neg h6, if_neg h8] at K9 ⊢); exact K9
/-- VotingFloorModel.decidedBy(I)I -/
noncomputable def v_X12_decidedBy (p0 : Int32) (μ : Mm) : Int32 := (let r2 : Int32 := whl (fun s : Int32 × Int32 × Int32 × Int32 => bd_X12_decidedBy_20  μ s.1 s.2.1 s.2.2.1 s.2.2.2) (fun _ : Int32 × Int32 × Int32 × Int32 => 0) FU (p0, ((v_X12_here 52 μ) &&& ((1 <<< (p0 &&& 31)) ^^^ (-1))), 0, 0); r2)
def p_X12_decidedBy (p0 : Int32)  (μ : Mm) : Prop := whP (fun s : Int32 × Int32 × Int32 × Int32 => bd_X12_decidedBy_20  μ s.1 s.2.1 s.2.2.1 s.2.2.2) (fun s : Int32 × Int32 × Int32 × Int32 => sd_X12_decidedBy_20   μ s.1 s.2.1 s.2.2.1 s.2.2.2) FU (p0, ((v_X12_here 52 μ) &&& ((1 <<< (p0 &&& 31)) ^^^ (-1))), 0, 0)
set_option maxRecDepth 20000 in
set_option maxHeartbeats 4000000 in
theorem con_X12_decidedBy {E : Ex} {Q : Option Value → Mm → Prop} {p0 : Int32} {μ : Mm} (t : p_X12_decidedBy p0  μ) (k : Q (some (.int (v_X12_decidedBy p0 μ))) μ) : Con E 3 mX12_decidedBy [rf E 49, .int p0] μ Q := by
  refine Con_J (by decide +kernel) (Nat.le_of_ble_eq_true rfl) (fun G => ?_)
  unfold v_X12_decidedBy at k
  unfold p_X12_decidedBy at t
  refine J_sub (ls' := [(0, rf E 49), (1, .int p0)]) [0, 1] rfl ?_
  refine J_aload_n (dk okX12_decidedBy 0 rfl) 0 rfl rfl ?_
  refine J_aload_n (dk okX12_decidedBy 1 rfl) 0 rfl rfl ?_
  refine J_getR (dk okX12_decidedBy 2 rfl) kfX12_32 ds_49 rfl ?_
  refine J_callVi (As := [rf E 52]) (dk okX12_decidedBy 3 rfl) ds_49 rfl vkX12_here lkX12_122 rfl rfl (Nat.le_of_ble_eq_true rfl) (by decide) (con_X12_here ds_52 ⟨_, rfl, ?_⟩)
  refine J_iconst (v := 1) (dk okX12_decidedBy 4 rfl) (by decide) ?_
  refine J_iload_n (dk okX12_decidedBy 5 rfl) 1 rfl rfl ?_
  refine J_ishl (dk okX12_decidedBy 6 rfl) ?_
  refine J_iconst (v := (-1)) (dk okX12_decidedBy 7 rfl) (by decide) ?_
  refine J_ixor (dk okX12_decidedBy 8 rfl) ?_
  refine J_iand (dk okX12_decidedBy 9 rfl) ?_
  refine J_istore_n (ls' := [(2, _), (0, _), (1, _)]) (dk okX12_decidedBy 10 rfl) rfl (by decide) rfl ?_
  refine J_iconst (v := 0) (dk okX12_decidedBy 11 rfl) (by decide) ?_
  refine J_istore_n (ls' := [(3, _), (2, _), (0, _), (1, _)]) (dk okX12_decidedBy 12 rfl) rfl (by decide) rfl ?_
  refine J_iconst (v := 0) (dk okX12_decidedBy 13 rfl) (by decide) ?_
  refine J_istore (ls' := [(4, _), (3, _), (2, _), (0, _), (1, _)]) (dk okX12_decidedBy 14 rfl) (by decide) rfl ?_
  have s1 := t
  refine J_sub (ls' := [(0, _), (1, _), (2, _), (3, _), (4, _)]) [3, 4, 2, 1, 0] rfl ?_
  refine lw_X12_decidedBy_20  s1 (fun r2 er2 => ?_)
  refine J_iload_n (dk okX12_decidedBy 77 rfl) 0 rfl rfl ?_
  subst er2
  exact J_iret (dk okX12_decidedBy 78 rfl) rfl k
noncomputable def bd_X12_fitting_17  (μ : Mm) (x1 : Int32) (x2 : Int32) (x3 : Int32) (x4 : Int32) : (Int32 × Int32 × Int32 × Int32) ⊕ (Int32 × Int32 × Int32) := (if (μ.1 49 36) ≤ x4 then .inr (x1, x2, x3) else .inl (x1, x2, (if x3 = 0 then 0 else (if (v_X12_isSo x2 (μ.1 71 (Int32.toNatClampNeg x4)) (μ.1 72 (Int32.toNatClampNeg x4)) μ) = 0 then 0 else 1 : Int32) : Int32), (x4 + 1)))
def sd_X12_fitting_17   (μ : Mm) (x1 : Int32) (x2 : Int32) (x3 : Int32) (x4 : Int32) : Prop := (¬ ((μ.1 49 36) ≤ x4) → (¬ (x3 = 0) → (vp_in x4 12) ∧ (vp_in x4 12) ∧ p_X12_isSo x2 (μ.1 71 (Int32.toNatClampNeg x4)) (μ.1 72 (Int32.toNatClampNeg x4))))
set_option maxRecDepth 20000 in
set_option maxHeartbeats 4000000 in
theorem lw_X12_fitting_17 {E : Ex} {G : Gx} {Q : Option Value → Mm → Prop} {x1 : Int32} {x2 : Int32} {x3 : Int32} {x4 : Int32} {μ : Mm}  (p : whP (fun s : Int32 × Int32 × Int32 × Int32 => bd_X12_fitting_17  μ s.1 s.2.1 s.2.2.1 s.2.2.2) (fun s : Int32 × Int32 × Int32 × Int32 => sd_X12_fitting_17   μ s.1 s.2.1 s.2.2.1 s.2.2.2) FU (x1, x2, x3, x4)) (k : ∀ r : Int32 × Int32 × Int32, r = whl (fun s : Int32 × Int32 × Int32 × Int32 => bd_X12_fitting_17  μ s.1 s.2.1 s.2.2.1 s.2.2.2) (fun _ : Int32 × Int32 × Int32 × Int32 => (0, 0, 0)) FU (x1, x2, x3, x4) → J E G 3 mX12_fitting Q 64 [(0, rf E 49), (1, .int (r.1)), (2, .int (r.2.1)), (3, .int (r.2.2))] [] μ) : J E G 3 mX12_fitting Q 17 [(0, rf E 49), (1, .int x1), (2, .int x2), (3, .int x3), (4, .int x4)] [] μ := by
  refine J_whl (f := (fun s : Int32 × Int32 × Int32 × Int32 => bd_X12_fitting_17  μ s.1 s.2.1 s.2.2.1 s.2.2.2)) (dd := (fun _ : Int32 × Int32 × Int32 × Int32 => (0, 0, 0))) (sd := (fun s : Int32 × Int32 × Int32 × Int32 => sd_X12_fitting_17   μ s.1 s.2.1 s.2.2.1 s.2.2.2)) (P := fun s : Int32 × Int32 × Int32 × Int32 => J E G 3 mX12_fitting Q 17 [(0, rf E 49), (1, .int (s.1)), (2, .int (s.2.1)), (3, .int (s.2.2.1)), (4, .int (s.2.2.2))] [] (μ)) (R := fun r : Int32 × Int32 × Int32 => J E G 3 mX12_fitting Q 64 [(0, rf E 49), (1, .int (r.1)), (2, .int (r.2.1)), (3, .int (r.2.2))] [] μ) ?_ FU (x1, x2, x3, x4) p (k _ rfl)
  clear p k
  rintro ⟨x1, x2, x3, x4⟩ t k1 k2
  dsimp only [sd_X12_fitting_17] at t
  have kb : ∀ (y1 : Int32) (y2 : Int32) (y3 : Int32) (y4 : Int32) , bd_X12_fitting_17  μ x1 x2 x3 x4 = .inl (y1, y2, y3, y4) → J E G 3 mX12_fitting Q 17 [(0, rf E 49), (1, .int y1), (2, .int y2), (3, .int y3), (4, .int y4)] [] μ := fun y1 y2 y3 y4  h => k1 (y1, y2, y3, y4) h
  have kx : ∀ (y1 : Int32) (y2 : Int32) (y3 : Int32) , bd_X12_fitting_17  μ x1 x2 x3 x4 = .inr (y1, y2, y3) → J E G 3 mX12_fitting Q 64 [(0, rf E 49), (1, .int y1), (2, .int y2), (3, .int y3)] [] μ := fun y1 y2 y3  h => k2 (y1, y2, y3) h
  clear k1 k2
  refine J_iload (dk okX12_fitting 12 rfl) 4 rfl ?_
  refine J_aload_n (dk okX12_fitting 13 rfl) 0 rfl rfl ?_
  refine J_getI (dk okX12_fitting 14 rfl) kfX12_418 ds_49 rfl ?_
  refine J_icmp_ge (tgt := 64) (dk okX12_fitting 15 rfl) (by decide) (fun h1 => ?_) (fun h1 => ?_)
  · exact J_sub [0, 1, 2, 3] rfl (kx x1 x2 x3 (by unfold bd_X12_fitting_17; first | (simp only [if_pos h1]; done) | (simp only [if_pos h1]; rfl) | rfl))
  · have t := t h1
    refine J_iload_n (dk okX12_fitting 16 rfl) 3 rfl rfl ?_
    have K7 : J E G 3 mX12_fitting Q 57 [(0, rf E 49), (1, .int x1), (2, .int x2), (4, .int x4)] [.int (if x3 = 0 then 0 else (if (v_X12_isSo x2 (μ.1 71 (Int32.toNatClampNeg x4)) (μ.1 72 (Int32.toNatClampNeg x4)) μ) = 0 then 0 else 1 : Int32) : Int32)] μ := by
      refine J_istore_n (ls' := [(3, _), (0, _), (1, _), (2, _), (4, _)]) (dk okX12_fitting 33 rfl) rfl (by decide) rfl ?_
      refine J_iinc (v := (x4 + 1)) (ls' := [(4, _), (3, _), (0, _), (1, _), (2, _)]) (dk okX12_fitting 34 rfl) 4 rfl rfl (by decide) rfl ?_
      refine J_goto (tgt := 17) (dk okX12_fitting 35 rfl) (by decide) ?_
      exact J_sub [2, 3, 4, 1, 0] rfl (kb x1 x2 (if x3 = 0 then 0 else (if (v_X12_isSo x2 (μ.1 71 (Int32.toNatClampNeg x4)) (μ.1 72 (Int32.toNatClampNeg x4)) μ) = 0 then 0 else 1 : Int32) : Int32) (x4 + 1) (by unfold bd_X12_fitting_17; first | (simp only [if_neg h1]; done) | (simp only [if_neg h1]; rfl) | rfl))
    refine J_if_eq (tgt := 56) (dk okX12_fitting 17 rfl) (by decide) (fun h2 => ?_) (fun h2 => ?_)
    · refine J_iconst (v := 0) (dk okX12_fitting 32 rfl) (by decide) ?_
      refine J_sub (ls' := [(0, _), (1, _), (2, _), (4, _)]) [0, 1, 2, 4] rfl ?_
      (try simp only [if_pos h2] at K7 ⊢); exact K7
    · have t := t h2
      refine J_aload_n (dk okX12_fitting 18 rfl) 0 rfl rfl ?_
      refine J_iload_n (dk okX12_fitting 19 rfl) 2 rfl rfl ?_
      refine J_aload_n (dk okX12_fitting 20 rfl) 0 rfl rfl ?_
      refine J_getR (dk okX12_fitting 21 rfl) kfX12_89 ds_49 rfl ?_
      refine J_iload (dk okX12_fitting 22 rfl) 4 rfl ?_
      obtain ⟨s3, t⟩ := t
      refine J_iald (dk okX12_fitting 23 rfl) ds_71 s3 ?_
      refine J_aload_n (dk okX12_fitting 24 rfl) 0 rfl rfl ?_
      refine J_getR (dk okX12_fitting 25 rfl) kfX12_92 ds_49 rfl ?_
      refine J_iload (dk okX12_fitting 26 rfl) 4 rfl ?_
      obtain ⟨s4, t⟩ := t
      refine J_iald (dk okX12_fitting 27 rfl) ds_72 s4 ?_
      have s5 := t
      refine J_callVi (As := [.int x2, .int (μ.1 71 (Int32.toNatClampNeg x4)), .int (μ.1 72 (Int32.toNatClampNeg x4))]) (dk okX12_fitting 28 rfl) ds_49 rfl vkX12_isSo lkX12_421 rfl rfl (Nat.le_of_ble_eq_true rfl) (by decide) (con_X12_isSo s5 ⟨_, rfl, ?_⟩)
      refine J_if_eq (tgt := 56) (dk okX12_fitting 29 rfl) (by decide) (fun h6 => ?_) (fun h6 => ?_)
      · refine J_iconst (v := 0) (dk okX12_fitting 32 rfl) (by decide) ?_
        refine J_sub (ls' := [(0, _), (1, _), (2, _), (4, _)]) [0, 1, 2, 4] rfl ?_
        (try simp only [if_neg h2, if_pos h6] at K7 ⊢); exact K7
      · refine J_iconst (v := 1) (dk okX12_fitting 30 rfl) (by decide) ?_
        refine J_goto (tgt := 57) (dk okX12_fitting 31 rfl) (by decide) ?_
        refine J_sub (ls' := [(0, _), (1, _), (2, _), (4, _)]) [0, 1, 2, 4] rfl ?_
        (try simp only [if_neg h2, if_neg h6] at K7 ⊢); exact K7
noncomputable def bd_X12_fitting_4  (μ : Mm) (x1 : Int32) (x2 : Int32) : (Int32 × Int32) ⊕ (Int32) := (if (μ.1 49 3) ≤ x2 then .inr x1 else (let r3 : Int32 × Int32 × Int32 := whl (fun s : Int32 × Int32 × Int32 × Int32 => bd_X12_fitting_17  μ s.1 s.2.1 s.2.2.1 s.2.2.2) (fun _ : Int32 × Int32 × Int32 × Int32 => (0, 0, 0)) FU (x1, x2, 1, 0); .inl (((r3.1) ||| (if (r3.2.2) = 0 then 0 else (1 <<< ((r3.2.1) &&& 31)) : Int32)), ((r3.2.1) + 1))))
def sd_X12_fitting_4   (μ : Mm) (x1 : Int32) (x2 : Int32) : Prop := (¬ ((μ.1 49 3) ≤ x2) → whP (fun s : Int32 × Int32 × Int32 × Int32 => bd_X12_fitting_17  μ s.1 s.2.1 s.2.2.1 s.2.2.2) (fun s : Int32 × Int32 × Int32 × Int32 => sd_X12_fitting_17   μ s.1 s.2.1 s.2.2.1 s.2.2.2) FU (x1, x2, 1, 0))
set_option maxRecDepth 20000 in
set_option maxHeartbeats 4000000 in
theorem lw_X12_fitting_4 {E : Ex} {G : Gx} {Q : Option Value → Mm → Prop} {x1 : Int32} {x2 : Int32} {μ : Mm}  (p : whP (fun s : Int32 × Int32 => bd_X12_fitting_4  μ s.1 s.2) (fun s : Int32 × Int32 => sd_X12_fitting_4   μ s.1 s.2) FU (x1, x2)) (k : ∀ r : Int32, r = whl (fun s : Int32 × Int32 => bd_X12_fitting_4  μ s.1 s.2) (fun _ : Int32 × Int32 => 0) FU (x1, x2) → J E G 3 mX12_fitting Q 84 [(1, .int r)] [] μ) : J E G 3 mX12_fitting Q 4 [(0, rf E 49), (1, .int x1), (2, .int x2)] [] μ := by
  refine J_whl (f := (fun s : Int32 × Int32 => bd_X12_fitting_4  μ s.1 s.2)) (dd := (fun _ : Int32 × Int32 => 0)) (sd := (fun s : Int32 × Int32 => sd_X12_fitting_4   μ s.1 s.2)) (P := fun s : Int32 × Int32 => J E G 3 mX12_fitting Q 4 [(0, rf E 49), (1, .int (s.1)), (2, .int (s.2))] [] (μ)) (R := fun r : Int32 => J E G 3 mX12_fitting Q 84 [(1, .int r)] [] μ) ?_ FU (x1, x2) p (k _ rfl)
  clear p k
  rintro ⟨x1, x2⟩ t k1 k2
  dsimp only [sd_X12_fitting_4] at t
  have kb : ∀ (y1 : Int32) (y2 : Int32) , bd_X12_fitting_4  μ x1 x2 = .inl (y1, y2) → J E G 3 mX12_fitting Q 4 [(0, rf E 49), (1, .int y1), (2, .int y2)] [] μ := fun y1 y2  h => k1 (y1, y2) h
  have kx : ∀ (y1 : Int32) , bd_X12_fitting_4  μ x1 x2 = .inr y1 → J E G 3 mX12_fitting Q 84 [(1, .int y1)] [] μ := fun y1  h => k2 y1 h
  clear k1 k2
  refine J_iload_n (dk okX12_fitting 4 rfl) 2 rfl rfl ?_
  refine J_aload_n (dk okX12_fitting 5 rfl) 0 rfl rfl ?_
  refine J_getI (dk okX12_fitting 6 rfl) kfX12_111 ds_49 rfl ?_
  refine J_icmp_ge (tgt := 84) (dk okX12_fitting 7 rfl) (by decide) (fun h1 => ?_) (fun h1 => ?_)
  · exact J_sub [1] rfl (kx x1 (by unfold bd_X12_fitting_4; first | (simp only [if_pos h1]; done) | (simp only [if_pos h1]; rfl) | rfl))
  · have t := t h1
    refine J_iconst (v := 1) (dk okX12_fitting 8 rfl) (by decide) ?_
    refine J_istore_n (ls' := [(3, _), (0, _), (1, _), (2, _)]) (dk okX12_fitting 9 rfl) rfl (by decide) rfl ?_
    refine J_iconst (v := 0) (dk okX12_fitting 10 rfl) (by decide) ?_
    refine J_istore (ls' := [(4, _), (3, _), (0, _), (1, _), (2, _)]) (dk okX12_fitting 11 rfl) (by decide) rfl ?_
    have s2 := t
    refine J_sub (ls' := [(0, _), (1, _), (2, _), (3, _), (4, _)]) [2, 3, 4, 1, 0] rfl ?_
    refine lw_X12_fitting_17  s2 (fun r3 er3 => ?_)
    refine J_iload_n (dk okX12_fitting 36 rfl) 1 rfl rfl ?_
    refine J_iload_n (dk okX12_fitting 37 rfl) 3 rfl rfl ?_
    have K5 : J E G 3 mX12_fitting Q 76 [(0, rf E 49), (2, .int (r3.2.1))] [.int (if (r3.2.2) = 0 then 0 else (1 <<< ((r3.2.1) &&& 31)) : Int32), .int (r3.1)] μ := by
      refine J_ior (dk okX12_fitting 44 rfl) ?_
      refine J_istore_n (ls' := [(1, _), (0, _), (2, _)]) (dk okX12_fitting 45 rfl) rfl (by decide) rfl ?_
      refine J_iinc (v := ((r3.2.1) + 1)) (ls' := [(2, _), (1, _), (0, _)]) (dk okX12_fitting 46 rfl) 2 rfl rfl (by decide) rfl ?_
      refine J_goto (tgt := 4) (dk okX12_fitting 47 rfl) (by decide) ?_
      exact J_sub [2, 1, 0] rfl (kb ((r3.1) ||| (if (r3.2.2) = 0 then 0 else (1 <<< ((r3.2.1) &&& 31)) : Int32)) ((r3.2.1) + 1) (by subst er3; unfold bd_X12_fitting_4; first | (simp only [if_neg h1]; done) | (simp only [if_neg h1]; rfl) | rfl))
    refine J_if_eq (tgt := 75) (dk okX12_fitting 38 rfl) (by decide) (fun h4 => ?_) (fun h4 => ?_)
    · refine J_iconst (v := 0) (dk okX12_fitting 43 rfl) (by decide) ?_
      refine J_sub (ls' := [(0, _), (2, _)]) [0, 2] rfl ?_
      (try simp only [if_pos h4] at K5 ⊢); exact K5
    · refine J_iconst (v := 1) (dk okX12_fitting 39 rfl) (by decide) ?_
      refine J_iload_n (dk okX12_fitting 40 rfl) 2 rfl rfl ?_
      refine J_ishl (dk okX12_fitting 41 rfl) ?_
      refine J_goto (tgt := 76) (dk okX12_fitting 42 rfl) (by decide) ?_
      refine J_sub (ls' := [(0, _), (2, _)]) [0, 2] rfl ?_
      (try simp only [if_neg h4] at K5 ⊢); exact K5
/-- VotingFloorModel.fitting()I -/
noncomputable def v_X12_fitting  (μ : Mm) : Int32 := (let r2 : Int32 := whl (fun s : Int32 × Int32 => bd_X12_fitting_4  μ s.1 s.2) (fun _ : Int32 × Int32 => 0) FU (0, 0); r2)
def p_X12_fitting   (μ : Mm) : Prop := whP (fun s : Int32 × Int32 => bd_X12_fitting_4  μ s.1 s.2) (fun s : Int32 × Int32 => sd_X12_fitting_4   μ s.1 s.2) FU (0, 0)
set_option maxRecDepth 20000 in
set_option maxHeartbeats 4000000 in
theorem con_X12_fitting {E : Ex} {Q : Option Value → Mm → Prop} {μ : Mm} (t : p_X12_fitting   μ) (k : Q (some (.int (v_X12_fitting  μ))) μ) : Con E 3 mX12_fitting [rf E 49] μ Q := by
  refine Con_J (by decide +kernel) (Nat.le_of_ble_eq_true rfl) (fun G => ?_)
  unfold v_X12_fitting at k
  unfold p_X12_fitting at t
  refine J_sub (ls' := [(0, rf E 49)]) [0] rfl ?_
  refine J_iconst (v := 0) (dk okX12_fitting 0 rfl) (by decide) ?_
  refine J_istore_n (ls' := [(1, _), (0, _)]) (dk okX12_fitting 1 rfl) rfl (by decide) rfl ?_
  refine J_iconst (v := 0) (dk okX12_fitting 2 rfl) (by decide) ?_
  refine J_istore_n (ls' := [(2, _), (1, _), (0, _)]) (dk okX12_fitting 3 rfl) rfl (by decide) rfl ?_
  have s1 := t
  refine J_sub (ls' := [(0, _), (1, _), (2, _)]) [2, 1, 0] rfl ?_
  refine lw_X12_fitting_4  s1 (fun r2 er2 => ?_)
  refine J_iload_n (dk okX12_fitting 48 rfl) 0 rfl rfl ?_
  subst er2
  exact J_iret (dk okX12_fitting 49 rfl) rfl k
noncomputable def bd_X12_laysWon_2  (x1 : Int32) (x2 : Int32) (μ : Mm) : (Int32 × Int32 × Mm) ⊕ (Int32 × Mm) := (if 126 < x2 then .inr (x1, μ) else (let μ5 : Mm := (upI μ 66 (Int32.toNatClampNeg (v_X12_slot (μ.1 49 3) x2)) (if x2 = 0 then 0 else (-1000000) : Int32)); .inl (x1, (x2 + 1), μ5)))
def sd_X12_laysWon_2   (x1 : Int32) (x2 : Int32) (μ : Mm) : Prop := (¬ (126 < x2) → vp_in (v_X12_slot (μ.1 49 3) x2) 1016)
set_option maxRecDepth 20000 in
set_option maxHeartbeats 4000000 in
theorem lw_X12_laysWon_2 {E : Ex} {G : Gx} {Q : Option Value → Mm → Prop} {x1 : Int32} {x2 : Int32} {μ : Mm}  (p : whP (fun s : Int32 × Int32 × Mm => bd_X12_laysWon_2  s.1 s.2.1 s.2.2) (fun s : Int32 × Int32 × Mm => sd_X12_laysWon_2   s.1 s.2.1 s.2.2) FU (x1, x2, μ)) (k : ∀ r : Int32 × Mm, r = whl (fun s : Int32 × Int32 × Mm => bd_X12_laysWon_2  s.1 s.2.1 s.2.2) (fun s : Int32 × Int32 × Mm => (0, s.2.2)) FU (x1, x2, μ) → J E G 3 mX12_laysWon Q 38 [(0, rf E 49), (1, .int (r.1))] [] (r.2)) : J E G 3 mX12_laysWon Q 2 [(0, rf E 49), (1, .int x1), (2, .int x2)] [] μ := by
  refine J_whl (f := (fun s : Int32 × Int32 × Mm => bd_X12_laysWon_2  s.1 s.2.1 s.2.2)) (dd := (fun s : Int32 × Int32 × Mm => (0, s.2.2))) (sd := (fun s : Int32 × Int32 × Mm => sd_X12_laysWon_2   s.1 s.2.1 s.2.2)) (P := fun s : Int32 × Int32 × Mm => J E G 3 mX12_laysWon Q 2 [(0, rf E 49), (1, .int (s.1)), (2, .int (s.2.1))] [] (s.2.2)) (R := fun r : Int32 × Mm => J E G 3 mX12_laysWon Q 38 [(0, rf E 49), (1, .int (r.1))] [] (r.2)) ?_ FU (x1, x2, μ) p (k _ rfl)
  clear p k
  rintro ⟨x1, x2, μ⟩ t k1 k2
  dsimp only [sd_X12_laysWon_2] at t
  have kb : ∀ (y1 : Int32) (y2 : Int32) (μ9 : Mm), bd_X12_laysWon_2  x1 x2 μ = .inl (y1, y2, μ9) → J E G 3 mX12_laysWon Q 2 [(0, rf E 49), (1, .int y1), (2, .int y2)] [] μ9 := fun y1 y2 μ9 h => k1 (y1, y2, μ9) h
  have kx : ∀ (y1 : Int32) (μ9 : Mm), bd_X12_laysWon_2  x1 x2 μ = .inr (y1, μ9) → J E G 3 mX12_laysWon Q 38 [(0, rf E 49), (1, .int y1)] [] μ9 := fun y1 μ9 h => k2 (y1, μ9) h
  clear k1 k2
  refine J_iload_n (dk okX12_laysWon 2 rfl) 2 rfl rfl ?_
  refine J_bipush (v := 126) (dk okX12_laysWon 3 rfl) (by decide) ?_
  refine J_icmp_gt (tgt := 38) (dk okX12_laysWon 4 rfl) (by decide) (fun h1 => ?_) (fun h1 => ?_)
  · exact J_sub [0, 1] rfl (kx x1 μ (by unfold bd_X12_laysWon_2; first | (simp only [if_pos h1]; done) | (simp only [if_pos h1]; rfl) | rfl))
  · have t := t h1
    refine J_aload_n (dk okX12_laysWon 5 rfl) 0 rfl rfl ?_
    refine J_getR (dk okX12_laysWon 6 rfl) kfX12_74 ds_49 rfl ?_
    refine J_aload_n (dk okX12_laysWon 7 rfl) 0 rfl rfl ?_
    refine J_getI (dk okX12_laysWon 8 rfl) kfX12_111 ds_49 rfl ?_
    refine J_iload_n (dk okX12_laysWon 9 rfl) 2 rfl rfl ?_
    refine J_callSi (As := [.int (μ.1 49 3), .int x2]) (dk okX12_laysWon 10 rfl) skX12_slot lkX12_356 rfl rfl (Nat.le_of_ble_eq_true rfl) (by decide) (con_X12_slot  ⟨_, rfl, ?_⟩)
    refine J_iload_n (dk okX12_laysWon 11 rfl) 2 rfl rfl ?_
    have K3 : J E G 3 mX12_laysWon Q 31 [(0, rf E 49), (1, .int x1), (2, .int x2)] [.int (if x2 = 0 then 0 else (-1000000) : Int32), .int (v_X12_slot (μ.1 49 3) x2), rf E 66] μ := by
      have s4 := t
      refine J_iast (dk okX12_laysWon 16 rfl) ds_66 s4 ?_
      refine J_nm (fun μ5 eμ5 => ?_)
      refine J_iinc (v := (x2 + 1)) (ls' := [(2, _), (0, _), (1, _)]) (dk okX12_laysWon 17 rfl) 2 rfl rfl (by decide) rfl ?_
      refine J_goto (tgt := 2) (dk okX12_laysWon 18 rfl) (by decide) ?_
      exact J_sub [1, 2, 0] rfl (kb x1 (x2 + 1) μ5 (by subst eμ5; unfold bd_X12_laysWon_2; first | (simp only [if_neg h1]; done) | (simp only [if_neg h1]; rfl) | rfl))
    refine J_if_ne (tgt := 28) (dk okX12_laysWon 12 rfl) (by decide) (fun h2 => ?_) (fun h2 => ?_)
    · refine J_ldc_w (v := (-1000000)) (dk okX12_laysWon 15 rfl) kcX12_355 ?_
      refine J_sub (ls' := [(0, _), (1, _), (2, _)]) [0, 1, 2] rfl ?_
      (try simp only [if_neg h2] at K3 ⊢); exact K3
    · refine J_iconst (v := 0) (dk okX12_laysWon 13 rfl) (by decide) ?_
      refine J_goto (tgt := 31) (dk okX12_laysWon 14 rfl) (by decide) ?_
      refine J_sub (ls' := [(0, _), (1, _), (2, _)]) [0, 1, 2] rfl ?_
      (try simp only [if_pos h2] at K3 ⊢); exact K3
noncomputable def bd_X12_laysWon_65  (μ : Mm) (x1 : Int32) (x2 : Int32) (x3 : Int32) (x4 : Int32) (x5 : Int32) : (Int32 × Int32 × Int32 × Int32 × Int32) ⊕ (Int32 × Int32 × Int32 × Int32) := (if (if (v_X12_room x1 x2 μ) < x3 then (v_X12_room x1 x2 μ) else x3) < x5 then .inr (x1, x2, x3, x4) else .inl (x1, x2, x3, (if x4 < ((x5 * (v_X12_load 52 x2 μ)) + (μ.1 66 (Int32.toNatClampNeg (v_X12_slot (x2 + 1) (x3 - x5))))) then ((x5 * (v_X12_load 52 x2 μ)) + (μ.1 66 (Int32.toNatClampNeg (v_X12_slot (x2 + 1) (x3 - x5))))) else x4), (x5 + 1)))
def sd_X12_laysWon_65   (μ : Mm) (x1 : Int32) (x2 : Int32) (x3 : Int32) (x4 : Int32) (x5 : Int32) : Prop := (p_X12_room x1 x2) ∧ (¬ ((if (v_X12_room x1 x2 μ) < x3 then (v_X12_room x1 x2 μ) else x3) < x5) → (p_X12_load 52 x2) ∧ vp_in (v_X12_slot (x2 + 1) (x3 - x5)) 1016)
set_option maxRecDepth 20000 in
set_option maxHeartbeats 4000000 in
theorem lw_X12_laysWon_65 {E : Ex} {G : Gx} {Q : Option Value → Mm → Prop} {x1 : Int32} {x2 : Int32} {x3 : Int32} {x4 : Int32} {x5 : Int32} {μ : Mm}  (p : whP (fun s : Int32 × Int32 × Int32 × Int32 × Int32 => bd_X12_laysWon_65  μ s.1 s.2.1 s.2.2.1 s.2.2.2.1 s.2.2.2.2) (fun s : Int32 × Int32 × Int32 × Int32 × Int32 => sd_X12_laysWon_65   μ s.1 s.2.1 s.2.2.1 s.2.2.2.1 s.2.2.2.2) FU (x1, x2, x3, x4, x5)) (k : ∀ r : Int32 × Int32 × Int32 × Int32, r = whl (fun s : Int32 × Int32 × Int32 × Int32 × Int32 => bd_X12_laysWon_65  μ s.1 s.2.1 s.2.2.1 s.2.2.2.1 s.2.2.2.2) (fun _ : Int32 × Int32 × Int32 × Int32 × Int32 => (0, 0, 0, 0)) FU (x1, x2, x3, x4, x5) → J E G 3 mX12_laysWon Q 121 [(0, rf E 49), (1, .int (r.1)), (2, .int (r.2.1)), (3, .int (r.2.2.1)), (4, .int (r.2.2.2))] [] μ) : J E G 3 mX12_laysWon Q 65 [(0, rf E 49), (1, .int x1), (2, .int x2), (3, .int x3), (4, .int x4), (5, .int x5)] [] μ := by
  refine J_whl (f := (fun s : Int32 × Int32 × Int32 × Int32 × Int32 => bd_X12_laysWon_65  μ s.1 s.2.1 s.2.2.1 s.2.2.2.1 s.2.2.2.2)) (dd := (fun _ : Int32 × Int32 × Int32 × Int32 × Int32 => (0, 0, 0, 0))) (sd := (fun s : Int32 × Int32 × Int32 × Int32 × Int32 => sd_X12_laysWon_65   μ s.1 s.2.1 s.2.2.1 s.2.2.2.1 s.2.2.2.2)) (P := fun s : Int32 × Int32 × Int32 × Int32 × Int32 => J E G 3 mX12_laysWon Q 65 [(0, rf E 49), (1, .int (s.1)), (2, .int (s.2.1)), (3, .int (s.2.2.1)), (4, .int (s.2.2.2.1)), (5, .int (s.2.2.2.2))] [] (μ)) (R := fun r : Int32 × Int32 × Int32 × Int32 => J E G 3 mX12_laysWon Q 121 [(0, rf E 49), (1, .int (r.1)), (2, .int (r.2.1)), (3, .int (r.2.2.1)), (4, .int (r.2.2.2))] [] μ) ?_ FU (x1, x2, x3, x4, x5) p (k _ rfl)
  clear p k
  rintro ⟨x1, x2, x3, x4, x5⟩ t k1 k2
  dsimp only [sd_X12_laysWon_65] at t
  have kb : ∀ (y1 : Int32) (y2 : Int32) (y3 : Int32) (y4 : Int32) (y5 : Int32) , bd_X12_laysWon_65  μ x1 x2 x3 x4 x5 = .inl (y1, y2, y3, y4, y5) → J E G 3 mX12_laysWon Q 65 [(0, rf E 49), (1, .int y1), (2, .int y2), (3, .int y3), (4, .int y4), (5, .int y5)] [] μ := fun y1 y2 y3 y4 y5  h => k1 (y1, y2, y3, y4, y5) h
  have kx : ∀ (y1 : Int32) (y2 : Int32) (y3 : Int32) (y4 : Int32) , bd_X12_laysWon_65  μ x1 x2 x3 x4 x5 = .inr (y1, y2, y3, y4) → J E G 3 mX12_laysWon Q 121 [(0, rf E 49), (1, .int y1), (2, .int y2), (3, .int y3), (4, .int y4)] [] μ := fun y1 y2 y3 y4  h => k2 (y1, y2, y3, y4) h
  clear k1 k2
  refine J_iload (dk okX12_laysWon 35 rfl) 5 rfl ?_
  refine J_iload_n (dk okX12_laysWon 36 rfl) 3 rfl rfl ?_
  refine J_aload_n (dk okX12_laysWon 37 rfl) 0 rfl rfl ?_
  refine J_iload_n (dk okX12_laysWon 38 rfl) 1 rfl rfl ?_
  refine J_iload_n (dk okX12_laysWon 39 rfl) 2 rfl rfl ?_
  obtain ⟨s1, t⟩ := t
  refine J_callVi (As := [.int x1, .int x2]) (dk okX12_laysWon 40 rfl) ds_49 rfl vkX12_room lkX12_359 rfl rfl (Nat.le_of_ble_eq_true rfl) (by decide) (con_X12_room s1 ⟨_, rfl, ?_⟩)
  refine J_mmin (dk okX12_laysWon 41 rfl) lkX12_150 mk_min_s mk_Math mk_min_c (by decide) (Nat.le_of_ble_eq_true rfl) ?_
  refine J_icmp_gt (tgt := 121) (dk okX12_laysWon 42 rfl) (by decide) (fun h2 => ?_) (fun h2 => ?_)
  · exact J_sub [0, 1, 2, 3, 4] rfl (kx x1 x2 x3 x4 (by unfold bd_X12_laysWon_65; first | (simp only [if_pos h2]; done) | (simp only [if_pos h2]; rfl) | rfl))
  · have t := t h2
    refine J_iload (dk okX12_laysWon 43 rfl) 4 rfl ?_
    refine J_iload (dk okX12_laysWon 44 rfl) 5 rfl ?_
    refine J_aload_n (dk okX12_laysWon 45 rfl) 0 rfl rfl ?_
    refine J_aload_n (dk okX12_laysWon 46 rfl) 0 rfl rfl ?_
    refine J_getR (dk okX12_laysWon 47 rfl) kfX12_32 ds_49 rfl ?_
    refine J_iload_n (dk okX12_laysWon 48 rfl) 2 rfl rfl ?_
    obtain ⟨s3, t⟩ := t
    refine J_callVi (As := [rf E 52, .int x2]) (dk okX12_laysWon 49 rfl) ds_49 rfl vkX12_load lkX12_130 rfl rfl (Nat.le_of_ble_eq_true rfl) (by decide) (con_X12_load ds_52 s3 ⟨_, rfl, ?_⟩)
    refine J_imul (dk okX12_laysWon 50 rfl) ?_
    refine J_aload_n (dk okX12_laysWon 51 rfl) 0 rfl rfl ?_
    refine J_getR (dk okX12_laysWon 52 rfl) kfX12_74 ds_49 rfl ?_
    refine J_iload_n (dk okX12_laysWon 53 rfl) 2 rfl rfl ?_
    refine J_iconst (v := 1) (dk okX12_laysWon 54 rfl) (by decide) ?_
    refine J_iadd (dk okX12_laysWon 55 rfl) ?_
    refine J_iload_n (dk okX12_laysWon 56 rfl) 3 rfl rfl ?_
    refine J_iload (dk okX12_laysWon 57 rfl) 5 rfl ?_
    refine J_isub (dk okX12_laysWon 58 rfl) ?_
    refine J_callSi (As := [.int (x2 + 1), .int (x3 - x5)]) (dk okX12_laysWon 59 rfl) skX12_slot lkX12_356 rfl rfl (Nat.le_of_ble_eq_true rfl) (by decide) (con_X12_slot  ⟨_, rfl, ?_⟩)
    have s4 := t
    refine J_iald (dk okX12_laysWon 60 rfl) ds_66 s4 ?_
    refine J_iadd (dk okX12_laysWon 61 rfl) ?_
    refine J_mmax (dk okX12_laysWon 62 rfl) lkX12_284 mk_max_s mk_Math mk_max_c (by decide) (Nat.le_of_ble_eq_true rfl) ?_
    refine J_istore (ls' := [(4, _), (0, _), (1, _), (2, _), (3, _), (5, _)]) (dk okX12_laysWon 63 rfl) (by decide) rfl ?_
    refine J_iinc (v := (x5 + 1)) (ls' := [(5, _), (4, _), (0, _), (1, _), (2, _), (3, _)]) (dk okX12_laysWon 64 rfl) 5 rfl rfl (by decide) rfl ?_
    refine J_goto (tgt := 65) (dk okX12_laysWon 65 rfl) (by decide) ?_
    exact J_sub [2, 3, 4, 5, 1, 0] rfl (kb x1 x2 x3 (if x4 < ((x5 * (v_X12_load 52 x2 μ)) + (μ.1 66 (Int32.toNatClampNeg (v_X12_slot (x2 + 1) (x3 - x5))))) then ((x5 * (v_X12_load 52 x2 μ)) + (μ.1 66 (Int32.toNatClampNeg (v_X12_slot (x2 + 1) (x3 - x5))))) else x4) (x5 + 1) (by unfold bd_X12_laysWon_65; first | (simp only [if_neg h2]; done) | (simp only [if_neg h2]; rfl) | rfl))
noncomputable def bd_X12_laysWon_51  (x1 : Int32) (x2 : Int32) (x3 : Int32) (μ : Mm) : (Int32 × Int32 × Int32 × Mm) ⊕ (Int32 × Int32 × Mm) := (if 126 < x3 then .inr (x1, x2, μ) else (let r3 : Int32 × Int32 × Int32 × Int32 := whl (fun s : Int32 × Int32 × Int32 × Int32 × Int32 => bd_X12_laysWon_65  μ s.1 s.2.1 s.2.2.1 s.2.2.2.1 s.2.2.2.2) (fun _ : Int32 × Int32 × Int32 × Int32 × Int32 => (0, 0, 0, 0)) FU (x1, x2, x3, (-1000000), 0); (let μ5 : Mm := (upI μ 66 (Int32.toNatClampNeg (v_X12_slot (r3.2.1) (r3.2.2.1))) (r3.2.2.2)); .inl ((r3.1), (r3.2.1), ((r3.2.2.1) + 1), μ5))))
def sd_X12_laysWon_51   (x1 : Int32) (x2 : Int32) (x3 : Int32) (μ : Mm) : Prop := (¬ (126 < x3) → (whP (fun s : Int32 × Int32 × Int32 × Int32 × Int32 => bd_X12_laysWon_65  μ s.1 s.2.1 s.2.2.1 s.2.2.2.1 s.2.2.2.2) (fun s : Int32 × Int32 × Int32 × Int32 × Int32 => sd_X12_laysWon_65   μ s.1 s.2.1 s.2.2.1 s.2.2.2.1 s.2.2.2.2) FU (x1, x2, x3, (-1000000), 0)) ∧ (∀ r3 : Int32 × Int32 × Int32 × Int32, r3 = whl (fun s : Int32 × Int32 × Int32 × Int32 × Int32 => bd_X12_laysWon_65  μ s.1 s.2.1 s.2.2.1 s.2.2.2.1 s.2.2.2.2) (fun _ : Int32 × Int32 × Int32 × Int32 × Int32 => (0, 0, 0, 0)) FU (x1, x2, x3, (-1000000), 0) → vp_in (v_X12_slot (r3.2.1) (r3.2.2.1)) 1016))
set_option maxRecDepth 20000 in
set_option maxHeartbeats 4000000 in
theorem lw_X12_laysWon_51 {E : Ex} {G : Gx} {Q : Option Value → Mm → Prop} {x1 : Int32} {x2 : Int32} {x3 : Int32} {μ : Mm}  (p : whP (fun s : Int32 × Int32 × Int32 × Mm => bd_X12_laysWon_51  s.1 s.2.1 s.2.2.1 s.2.2.2) (fun s : Int32 × Int32 × Int32 × Mm => sd_X12_laysWon_51   s.1 s.2.1 s.2.2.1 s.2.2.2) FU (x1, x2, x3, μ)) (k : ∀ r : Int32 × Int32 × Mm, r = whl (fun s : Int32 × Int32 × Int32 × Mm => bd_X12_laysWon_51  s.1 s.2.1 s.2.2.1 s.2.2.2) (fun s : Int32 × Int32 × Int32 × Mm => (0, 0, s.2.2.2)) FU (x1, x2, x3, μ) → J E G 3 mX12_laysWon Q 139 [(0, rf E 49), (1, .int (r.1)), (2, .int (r.2.1))] [] (r.2.2)) : J E G 3 mX12_laysWon Q 51 [(0, rf E 49), (1, .int x1), (2, .int x2), (3, .int x3)] [] μ := by
  refine J_whl (f := (fun s : Int32 × Int32 × Int32 × Mm => bd_X12_laysWon_51  s.1 s.2.1 s.2.2.1 s.2.2.2)) (dd := (fun s : Int32 × Int32 × Int32 × Mm => (0, 0, s.2.2.2))) (sd := (fun s : Int32 × Int32 × Int32 × Mm => sd_X12_laysWon_51   s.1 s.2.1 s.2.2.1 s.2.2.2)) (P := fun s : Int32 × Int32 × Int32 × Mm => J E G 3 mX12_laysWon Q 51 [(0, rf E 49), (1, .int (s.1)), (2, .int (s.2.1)), (3, .int (s.2.2.1))] [] (s.2.2.2)) (R := fun r : Int32 × Int32 × Mm => J E G 3 mX12_laysWon Q 139 [(0, rf E 49), (1, .int (r.1)), (2, .int (r.2.1))] [] (r.2.2)) ?_ FU (x1, x2, x3, μ) p (k _ rfl)
  clear p k
  rintro ⟨x1, x2, x3, μ⟩ t k1 k2
  dsimp only [sd_X12_laysWon_51] at t
  have kb : ∀ (y1 : Int32) (y2 : Int32) (y3 : Int32) (μ9 : Mm), bd_X12_laysWon_51  x1 x2 x3 μ = .inl (y1, y2, y3, μ9) → J E G 3 mX12_laysWon Q 51 [(0, rf E 49), (1, .int y1), (2, .int y2), (3, .int y3)] [] μ9 := fun y1 y2 y3 μ9 h => k1 (y1, y2, y3, μ9) h
  have kx : ∀ (y1 : Int32) (y2 : Int32) (μ9 : Mm), bd_X12_laysWon_51  x1 x2 x3 μ = .inr (y1, y2, μ9) → J E G 3 mX12_laysWon Q 139 [(0, rf E 49), (1, .int y1), (2, .int y2)] [] μ9 := fun y1 y2 μ9 h => k2 (y1, y2, μ9) h
  clear k1 k2
  refine J_iload_n (dk okX12_laysWon 28 rfl) 3 rfl rfl ?_
  refine J_bipush (v := 126) (dk okX12_laysWon 29 rfl) (by decide) ?_
  refine J_icmp_gt (tgt := 139) (dk okX12_laysWon 30 rfl) (by decide) (fun h1 => ?_) (fun h1 => ?_)
  · exact J_sub [0, 1, 2] rfl (kx x1 x2 μ (by unfold bd_X12_laysWon_51; first | (simp only [if_pos h1]; done) | (simp only [if_pos h1]; rfl) | rfl))
  · have t := t h1
    refine J_ldc_w (v := (-1000000)) (dk okX12_laysWon 31 rfl) kcX12_355 ?_
    refine J_istore (ls' := [(4, _), (0, _), (1, _), (2, _), (3, _)]) (dk okX12_laysWon 32 rfl) (by decide) rfl ?_
    refine J_iconst (v := 0) (dk okX12_laysWon 33 rfl) (by decide) ?_
    refine J_istore (ls' := [(5, _), (4, _), (0, _), (1, _), (2, _), (3, _)]) (dk okX12_laysWon 34 rfl) (by decide) rfl ?_
    obtain ⟨s2, t⟩ := t
    refine J_sub (ls' := [(0, _), (1, _), (2, _), (3, _), (4, _), (5, _)]) [2, 3, 4, 5, 1, 0] rfl ?_
    refine lw_X12_laysWon_65  s2 (fun r3 er3 => ?_)
    have t := t r3 er3
    refine J_aload_n (dk okX12_laysWon 66 rfl) 0 rfl rfl ?_
    refine J_getR (dk okX12_laysWon 67 rfl) kfX12_74 ds_49 rfl ?_
    refine J_iload_n (dk okX12_laysWon 68 rfl) 2 rfl rfl ?_
    refine J_iload_n (dk okX12_laysWon 69 rfl) 3 rfl rfl ?_
    refine J_callSi (As := [.int (r3.2.1), .int (r3.2.2.1)]) (dk okX12_laysWon 70 rfl) skX12_slot lkX12_356 rfl rfl (Nat.le_of_ble_eq_true rfl) (by decide) (con_X12_slot  ⟨_, rfl, ?_⟩)
    refine J_iload (dk okX12_laysWon 71 rfl) 4 rfl ?_
    have s4 := t
    refine J_iast (dk okX12_laysWon 72 rfl) ds_66 s4 ?_
    refine J_nm (fun μ5 eμ5 => ?_)
    refine J_iinc (v := ((r3.2.2.1) + 1)) (ls' := [(3, _), (0, _), (1, _), (2, _), (4, _)]) (dk okX12_laysWon 73 rfl) 3 rfl rfl (by decide) rfl ?_
    refine J_goto (tgt := 51) (dk okX12_laysWon 74 rfl) (by decide) ?_
    exact J_sub [1, 2, 3, 0] rfl (kb (r3.1) (r3.2.1) ((r3.2.2.1) + 1) μ5 (by subst eμ5 er3; unfold bd_X12_laysWon_51; first | (simp only [if_neg h1]; done) | (simp only [if_neg h1]; rfl) | rfl))
noncomputable def bd_X12_laysWon_45  (x1 : Int32) (x2 : Int32) (μ : Mm) : (Int32 × Int32 × Mm) ⊕ (Mm) := (if x2 < 0 then .inr μ else (let r3 : Int32 × Int32 × Mm := whl (fun s : Int32 × Int32 × Int32 × Mm => bd_X12_laysWon_51  s.1 s.2.1 s.2.2.1 s.2.2.2) (fun s : Int32 × Int32 × Int32 × Mm => (0, 0, s.2.2.2)) FU (x1, x2, 0, μ); .inl ((r3.1), ((r3.2.1) + (-1)), (r3.2.2))))
def sd_X12_laysWon_45   (x1 : Int32) (x2 : Int32) (μ : Mm) : Prop := (¬ (x2 < 0) → whP (fun s : Int32 × Int32 × Int32 × Mm => bd_X12_laysWon_51  s.1 s.2.1 s.2.2.1 s.2.2.2) (fun s : Int32 × Int32 × Int32 × Mm => sd_X12_laysWon_51   s.1 s.2.1 s.2.2.1 s.2.2.2) FU (x1, x2, 0, μ))
set_option maxRecDepth 20000 in
set_option maxHeartbeats 4000000 in
theorem lw_X12_laysWon_45 {E : Ex} {G : Gx} {Q : Option Value → Mm → Prop} {x1 : Int32} {x2 : Int32} {μ : Mm}  (p : whP (fun s : Int32 × Int32 × Mm => bd_X12_laysWon_45  s.1 s.2.1 s.2.2) (fun s : Int32 × Int32 × Mm => sd_X12_laysWon_45   s.1 s.2.1 s.2.2) FU (x1, x2, μ)) (k : ∀ r : Mm, r = whl (fun s : Int32 × Int32 × Mm => bd_X12_laysWon_45  s.1 s.2.1 s.2.2) (fun s : Int32 × Int32 × Mm => s.2.2) FU (x1, x2, μ) → J E G 3 mX12_laysWon Q 145 [] [] r) : J E G 3 mX12_laysWon Q 45 [(0, rf E 49), (1, .int x1), (2, .int x2)] [] μ := by
  refine J_whl (f := (fun s : Int32 × Int32 × Mm => bd_X12_laysWon_45  s.1 s.2.1 s.2.2)) (dd := (fun s : Int32 × Int32 × Mm => s.2.2)) (sd := (fun s : Int32 × Int32 × Mm => sd_X12_laysWon_45   s.1 s.2.1 s.2.2)) (P := fun s : Int32 × Int32 × Mm => J E G 3 mX12_laysWon Q 45 [(0, rf E 49), (1, .int (s.1)), (2, .int (s.2.1))] [] (s.2.2)) (R := fun r : Mm => J E G 3 mX12_laysWon Q 145 [] [] r) ?_ FU (x1, x2, μ) p (k _ rfl)
  clear p k
  rintro ⟨x1, x2, μ⟩ t k1 k2
  dsimp only [sd_X12_laysWon_45] at t
  have kb : ∀ (y1 : Int32) (y2 : Int32) (μ9 : Mm), bd_X12_laysWon_45  x1 x2 μ = .inl (y1, y2, μ9) → J E G 3 mX12_laysWon Q 45 [(0, rf E 49), (1, .int y1), (2, .int y2)] [] μ9 := fun y1 y2 μ9 h => k1 (y1, y2, μ9) h
  have kx : ∀  (μ9 : Mm), bd_X12_laysWon_45  x1 x2 μ = .inr μ9 → J E G 3 mX12_laysWon Q 145 [] [] μ9 := fun  μ9 h => k2 μ9 h
  clear k1 k2
  refine J_iload_n (dk okX12_laysWon 24 rfl) 2 rfl rfl ?_
  refine J_if_lt (tgt := 145) (dk okX12_laysWon 25 rfl) (by decide) (fun h1 => ?_) (fun h1 => ?_)
  · exact J_sub [] rfl (kx μ (by unfold bd_X12_laysWon_45; first | (simp only [if_pos h1]; done) | (simp only [if_pos h1]; rfl) | rfl))
  · have t := t h1
    refine J_iconst (v := 0) (dk okX12_laysWon 26 rfl) (by decide) ?_
    refine J_istore_n (ls' := [(3, _), (0, _), (1, _), (2, _)]) (dk okX12_laysWon 27 rfl) rfl (by decide) rfl ?_
    have s2 := t
    refine J_sub (ls' := [(0, _), (1, _), (2, _), (3, _)]) [1, 2, 3, 0] rfl ?_
    refine lw_X12_laysWon_51  s2 (fun r3 er3 => ?_)
    refine J_iinc (v := ((r3.2.1) + (-1))) (ls' := [(2, _), (0, _), (1, _)]) (dk okX12_laysWon 75 rfl) 2 rfl rfl (by decide) rfl ?_
    refine J_goto (tgt := 45) (dk okX12_laysWon 76 rfl) (by decide) ?_
    exact J_sub [1, 2, 0] rfl (kb (r3.1) ((r3.2.1) + (-1)) (r3.2.2) (by subst er3; unfold bd_X12_laysWon_45; first | (simp only [if_neg h1]; done) | (simp only [if_neg h1]; rfl) | rfl))
/-- VotingFloorModel.laysWon(I)V -/
noncomputable def e_X12_laysWon (p0 : Int32) (μ : Mm) : Mm := (let r2 : Int32 × Mm := whl (fun s : Int32 × Int32 × Mm => bd_X12_laysWon_2  s.1 s.2.1 s.2.2) (fun s : Int32 × Int32 × Mm => (0, s.2.2)) FU (p0, 0, μ); (let r4 : Mm := whl (fun s : Int32 × Int32 × Mm => bd_X12_laysWon_45  s.1 s.2.1 s.2.2) (fun s : Int32 × Int32 × Mm => s.2.2) FU ((r2.1), (((r2.2).1 49 3) - 1), (r2.2)); r4))
def p_X12_laysWon (p0 : Int32)  (μ : Mm) : Prop := (whP (fun s : Int32 × Int32 × Mm => bd_X12_laysWon_2  s.1 s.2.1 s.2.2) (fun s : Int32 × Int32 × Mm => sd_X12_laysWon_2   s.1 s.2.1 s.2.2) FU (p0, 0, μ)) ∧ (∀ r2 : Int32 × Mm, r2 = whl (fun s : Int32 × Int32 × Mm => bd_X12_laysWon_2  s.1 s.2.1 s.2.2) (fun s : Int32 × Int32 × Mm => (0, s.2.2)) FU (p0, 0, μ) → whP (fun s : Int32 × Int32 × Mm => bd_X12_laysWon_45  s.1 s.2.1 s.2.2) (fun s : Int32 × Int32 × Mm => sd_X12_laysWon_45   s.1 s.2.1 s.2.2) FU ((r2.1), (((r2.2).1 49 3) - 1), (r2.2)))
set_option maxRecDepth 20000 in
set_option maxHeartbeats 4000000 in
theorem con_X12_laysWon {E : Ex} {Q : Option Value → Mm → Prop} {p0 : Int32} {μ : Mm} (t : p_X12_laysWon p0  μ) (k : Q none (e_X12_laysWon p0 μ)) : Con E 3 mX12_laysWon [rf E 49, .int p0] μ Q := by
  refine Con_J (by decide +kernel) (Nat.le_of_ble_eq_true rfl) (fun G => ?_)
  unfold e_X12_laysWon at k
  unfold p_X12_laysWon at t
  refine J_sub (ls' := [(0, rf E 49), (1, .int p0)]) [0, 1] rfl ?_
  refine J_iconst (v := 0) (dk okX12_laysWon 0 rfl) (by decide) ?_
  refine J_istore_n (ls' := [(2, _), (0, _), (1, _)]) (dk okX12_laysWon 1 rfl) rfl (by decide) rfl ?_
  obtain ⟨s1, t⟩ := t
  refine J_sub (ls' := [(0, _), (1, _), (2, _)]) [1, 2, 0] rfl ?_
  refine lw_X12_laysWon_2  s1 (fun r2 er2 => ?_)
  have t := t r2 er2
  refine J_aload_n (dk okX12_laysWon 19 rfl) 0 rfl rfl ?_
  refine J_getI (dk okX12_laysWon 20 rfl) kfX12_111 ds_49 rfl ?_
  refine J_iconst (v := 1) (dk okX12_laysWon 21 rfl) (by decide) ?_
  refine J_isub (dk okX12_laysWon 22 rfl) ?_
  refine J_istore_n (ls' := [(2, _), (0, _), (1, _)]) (dk okX12_laysWon 23 rfl) rfl (by decide) rfl ?_
  have s3 := t
  refine J_sub (ls' := [(0, _), (1, _), (2, _)]) [1, 2, 0] rfl ?_
  refine lw_X12_laysWon_45  s3 (fun r4 er4 => ?_)
  subst er4 er2
  exact J_vret (dk okX12_laysWon 77 rfl) rfl k
noncomputable def bd_X12_loadOf_5 (p0 : Nat) (μ : Mm) (x2 : Int32) (x3 : Int32) (x4 : Int32) : (Int32 × Int32 × Int32) ⊕ (Int32) := (if (μ.1 49 3) ≤ x4 then .inr x3 else .inl (x2, (x3 + (if (v_X12_has (x2 &&& (v_X12_here p0 μ)) x4) = 0 then 0 else (v_X12_load p0 x4 μ) : Int32)), (x4 + 1)))
def sd_X12_loadOf_5 (p0 : Nat)  (μ : Mm) (x2 : Int32) (x3 : Int32) (x4 : Int32) : Prop := (¬ ((μ.1 49 3) ≤ x4) → (¬ ((v_X12_has (x2 &&& (v_X12_here p0 μ)) x4) = 0) → p_X12_load p0 x4))
set_option maxRecDepth 20000 in
set_option maxHeartbeats 4000000 in
theorem lw_X12_loadOf_5 {E : Ex} {G : Gx} {Q : Option Value → Mm → Prop} {p0 : Nat} {x2 : Int32} {x3 : Int32} {x4 : Int32} {μ : Mm} (hp0 : dscL[p0]? = some (.inr (.inl (1, 24)))) (p : whP (fun s : Int32 × Int32 × Int32 => bd_X12_loadOf_5 p0 μ s.1 s.2.1 s.2.2) (fun s : Int32 × Int32 × Int32 => sd_X12_loadOf_5 p0  μ s.1 s.2.1 s.2.2) FU (x2, x3, x4)) (k : ∀ r : Int32, r = whl (fun s : Int32 × Int32 × Int32 => bd_X12_loadOf_5 p0 μ s.1 s.2.1 s.2.2) (fun _ : Int32 × Int32 × Int32 => 0) FU (x2, x3, x4) → J E G 3 mX12_loadOf Q 49 [(3, .int r)] [] μ) : J E G 3 mX12_loadOf Q 5 [(0, rf E 49), (1, rf E p0), (2, .int x2), (3, .int x3), (4, .int x4)] [] μ := by
  refine J_whl (f := (fun s : Int32 × Int32 × Int32 => bd_X12_loadOf_5 p0 μ s.1 s.2.1 s.2.2)) (dd := (fun _ : Int32 × Int32 × Int32 => 0)) (sd := (fun s : Int32 × Int32 × Int32 => sd_X12_loadOf_5 p0  μ s.1 s.2.1 s.2.2)) (P := fun s : Int32 × Int32 × Int32 => J E G 3 mX12_loadOf Q 5 [(0, rf E 49), (1, rf E p0), (2, .int (s.1)), (3, .int (s.2.1)), (4, .int (s.2.2))] [] (μ)) (R := fun r : Int32 => J E G 3 mX12_loadOf Q 49 [(3, .int r)] [] μ) ?_ FU (x2, x3, x4) p (k _ rfl)
  clear p k
  rintro ⟨x2, x3, x4⟩ t k1 k2
  dsimp only [sd_X12_loadOf_5] at t
  have kb : ∀ (y2 : Int32) (y3 : Int32) (y4 : Int32) , bd_X12_loadOf_5 p0 μ x2 x3 x4 = .inl (y2, y3, y4) → J E G 3 mX12_loadOf Q 5 [(0, rf E 49), (1, rf E p0), (2, .int y2), (3, .int y3), (4, .int y4)] [] μ := fun y2 y3 y4  h => k1 (y2, y3, y4) h
  have kx : ∀ (y3 : Int32) , bd_X12_loadOf_5 p0 μ x2 x3 x4 = .inr y3 → J E G 3 mX12_loadOf Q 49 [(3, .int y3)] [] μ := fun y3  h => k2 y3 h
  clear k1 k2
  refine J_iload (dk okX12_loadOf 4 rfl) 4 rfl ?_
  refine J_aload_n (dk okX12_loadOf 5 rfl) 0 rfl rfl ?_
  refine J_getI (dk okX12_loadOf 6 rfl) kfX12_111 ds_49 rfl ?_
  refine J_icmp_ge (tgt := 49) (dk okX12_loadOf 7 rfl) (by decide) (fun h1 => ?_) (fun h1 => ?_)
  · exact J_sub [3] rfl (kx x3 (by unfold bd_X12_loadOf_5; first | (simp only [if_pos h1]; done) | (simp only [if_pos h1]; rfl) | rfl))
  · have t := t h1
    refine J_iload_n (dk okX12_loadOf 8 rfl) 3 rfl rfl ?_
    refine J_iload_n (dk okX12_loadOf 9 rfl) 2 rfl rfl ?_
    refine J_aload_n (dk okX12_loadOf 10 rfl) 0 rfl rfl ?_
    refine J_aload_n (dk okX12_loadOf 11 rfl) 1 rfl rfl ?_
    refine J_callVi (As := [rf E p0]) (dk okX12_loadOf 12 rfl) ds_49 rfl vkX12_here lkX12_122 rfl rfl (Nat.le_of_ble_eq_true rfl) (by decide) (con_X12_here hp0 ⟨_, rfl, ?_⟩)
    refine J_iand (dk okX12_loadOf 13 rfl) ?_
    refine J_iload (dk okX12_loadOf 14 rfl) 4 rfl ?_
    refine J_callSi (As := [.int (x2 &&& (v_X12_here p0 μ)), .int x4]) (dk okX12_loadOf 15 rfl) skX12_has lkX12_126 rfl rfl (Nat.le_of_ble_eq_true rfl) (by decide) (con_X12_has  ⟨_, rfl, ?_⟩)
    have K4 : J E G 3 mX12_loadOf Q 41 [(0, rf E 49), (1, rf E p0), (2, .int x2), (4, .int x4)] [.int (if (v_X12_has (x2 &&& (v_X12_here p0 μ)) x4) = 0 then 0 else (v_X12_load p0 x4 μ) : Int32), .int x3] μ := by
      refine J_iadd (dk okX12_loadOf 23 rfl) ?_
      refine J_istore_n (ls' := [(3, _), (0, _), (1, _), (2, _), (4, _)]) (dk okX12_loadOf 24 rfl) rfl (by decide) rfl ?_
      refine J_iinc (v := (x4 + 1)) (ls' := [(4, _), (3, _), (0, _), (1, _), (2, _)]) (dk okX12_loadOf 25 rfl) 4 rfl rfl (by decide) rfl ?_
      refine J_goto (tgt := 5) (dk okX12_loadOf 26 rfl) (by decide) ?_
      exact J_sub [2, 3, 4, 1, 0] rfl (kb x2 (x3 + (if (v_X12_has (x2 &&& (v_X12_here p0 μ)) x4) = 0 then 0 else (v_X12_load p0 x4 μ) : Int32)) (x4 + 1) (by unfold bd_X12_loadOf_5; first | (simp only [if_neg h1]; done) | (simp only [if_neg h1]; rfl) | rfl))
    refine J_if_eq (tgt := 40) (dk okX12_loadOf 16 rfl) (by decide) (fun h2 => ?_) (fun h2 => ?_)
    · refine J_iconst (v := 0) (dk okX12_loadOf 22 rfl) (by decide) ?_
      refine J_sub (ls' := [(0, _), (1, _), (2, _), (4, _)]) [0, 1, 2, 4] rfl ?_
      (try simp only [if_pos h2] at K4 ⊢); exact K4
    · have t := t h2
      refine J_aload_n (dk okX12_loadOf 17 rfl) 0 rfl rfl ?_
      refine J_aload_n (dk okX12_loadOf 18 rfl) 1 rfl rfl ?_
      refine J_iload (dk okX12_loadOf 19 rfl) 4 rfl ?_
      have s3 := t
      refine J_callVi (As := [rf E p0, .int x4]) (dk okX12_loadOf 20 rfl) ds_49 rfl vkX12_load lkX12_130 rfl rfl (Nat.le_of_ble_eq_true rfl) (by decide) (con_X12_load hp0 s3 ⟨_, rfl, ?_⟩)
      refine J_goto (tgt := 41) (dk okX12_loadOf 21 rfl) (by decide) ?_
      refine J_sub (ls' := [(0, _), (1, _), (2, _), (4, _)]) [0, 1, 2, 4] rfl ?_
      (try simp only [if_neg h2] at K4 ⊢); exact K4
/-- VotingFloorModel.loadOf([II)I -/
noncomputable def v_X12_loadOf (p0 : Nat) (p1 : Int32) (μ : Mm) : Int32 := (let r2 : Int32 := whl (fun s : Int32 × Int32 × Int32 => bd_X12_loadOf_5 p0 μ s.1 s.2.1 s.2.2) (fun _ : Int32 × Int32 × Int32 => 0) FU (p1, 0, 0); r2)
def p_X12_loadOf (p0 : Nat) (p1 : Int32)  (μ : Mm) : Prop := whP (fun s : Int32 × Int32 × Int32 => bd_X12_loadOf_5 p0 μ s.1 s.2.1 s.2.2) (fun s : Int32 × Int32 × Int32 => sd_X12_loadOf_5 p0  μ s.1 s.2.1 s.2.2) FU (p1, 0, 0)
set_option maxRecDepth 20000 in
set_option maxHeartbeats 4000000 in
theorem con_X12_loadOf {E : Ex} {Q : Option Value → Mm → Prop} {p0 : Nat} {p1 : Int32} {μ : Mm} (hp0 : dscL[p0]? = some (.inr (.inl (1, 24)))) (t : p_X12_loadOf p0 p1  μ) (k : Q (some (.int (v_X12_loadOf p0 p1 μ))) μ) : Con E 3 mX12_loadOf [rf E 49, rf E p0, .int p1] μ Q := by
  refine Con_J (by decide +kernel) (Nat.le_of_ble_eq_true rfl) (fun G => ?_)
  unfold v_X12_loadOf at k
  unfold p_X12_loadOf at t
  refine J_sub (ls' := [(0, rf E 49), (1, rf E p0), (2, .int p1)]) [0, 1, 2] rfl ?_
  refine J_iconst (v := 0) (dk okX12_loadOf 0 rfl) (by decide) ?_
  refine J_istore_n (ls' := [(3, _), (0, _), (1, _), (2, _)]) (dk okX12_loadOf 1 rfl) rfl (by decide) rfl ?_
  refine J_iconst (v := 0) (dk okX12_loadOf 2 rfl) (by decide) ?_
  refine J_istore (ls' := [(4, _), (3, _), (0, _), (1, _), (2, _)]) (dk okX12_loadOf 3 rfl) (by decide) rfl ?_
  have s1 := t
  refine J_sub (ls' := [(0, _), (1, _), (2, _), (3, _), (4, _)]) [2, 3, 4, 1, 0] rfl ?_
  refine lw_X12_loadOf_5 hp0 s1 (fun r2 er2 => ?_)
  refine J_iload_n (dk okX12_loadOf 27 rfl) 0 rfl rfl ?_
  subst er2
  exact J_iret (dk okX12_loadOf 28 rfl) rfl k
noncomputable def bd_X12_momentOf_5 (p0 : Nat) (μ : Mm) (x2 : Int32) (x3 : Int32) (x4 : Int32) : (Int32 × Int32 × Int32) ⊕ (Int32) := (if (μ.1 49 3) ≤ x4 then .inr x3 else .inl (x2, (x3 + (if (v_X12_has (x2 &&& (v_X12_here p0 μ)) x4) = 0 then 0 else ((v_X12_load p0 x4 μ) * (μ.1 p0 (Int32.toNatClampNeg (7 + x4)))) : Int32)), (x4 + 1)))
def sd_X12_momentOf_5 (p0 : Nat)  (μ : Mm) (x2 : Int32) (x3 : Int32) (x4 : Int32) : Prop := (¬ ((μ.1 49 3) ≤ x4) → (¬ ((v_X12_has (x2 &&& (v_X12_here p0 μ)) x4) = 0) → (p_X12_load p0 x4) ∧ vp_in (7 + x4) 24))
set_option maxRecDepth 20000 in
set_option maxHeartbeats 4000000 in
theorem lw_X12_momentOf_5 {E : Ex} {G : Gx} {Q : Option Value → Mm → Prop} {p0 : Nat} {x2 : Int32} {x3 : Int32} {x4 : Int32} {μ : Mm} (hp0 : dscL[p0]? = some (.inr (.inl (1, 24)))) (p : whP (fun s : Int32 × Int32 × Int32 => bd_X12_momentOf_5 p0 μ s.1 s.2.1 s.2.2) (fun s : Int32 × Int32 × Int32 => sd_X12_momentOf_5 p0  μ s.1 s.2.1 s.2.2) FU (x2, x3, x4)) (k : ∀ r : Int32, r = whl (fun s : Int32 × Int32 × Int32 => bd_X12_momentOf_5 p0 μ s.1 s.2.1 s.2.2) (fun _ : Int32 × Int32 × Int32 => 0) FU (x2, x3, x4) → J E G 3 mX12_momentOf Q 57 [(3, .int r)] [] μ) : J E G 3 mX12_momentOf Q 5 [(0, rf E 49), (1, rf E p0), (2, .int x2), (3, .int x3), (4, .int x4)] [] μ := by
  refine J_whl (f := (fun s : Int32 × Int32 × Int32 => bd_X12_momentOf_5 p0 μ s.1 s.2.1 s.2.2)) (dd := (fun _ : Int32 × Int32 × Int32 => 0)) (sd := (fun s : Int32 × Int32 × Int32 => sd_X12_momentOf_5 p0  μ s.1 s.2.1 s.2.2)) (P := fun s : Int32 × Int32 × Int32 => J E G 3 mX12_momentOf Q 5 [(0, rf E 49), (1, rf E p0), (2, .int (s.1)), (3, .int (s.2.1)), (4, .int (s.2.2))] [] (μ)) (R := fun r : Int32 => J E G 3 mX12_momentOf Q 57 [(3, .int r)] [] μ) ?_ FU (x2, x3, x4) p (k _ rfl)
  clear p k
  rintro ⟨x2, x3, x4⟩ t k1 k2
  dsimp only [sd_X12_momentOf_5] at t
  have kb : ∀ (y2 : Int32) (y3 : Int32) (y4 : Int32) , bd_X12_momentOf_5 p0 μ x2 x3 x4 = .inl (y2, y3, y4) → J E G 3 mX12_momentOf Q 5 [(0, rf E 49), (1, rf E p0), (2, .int y2), (3, .int y3), (4, .int y4)] [] μ := fun y2 y3 y4  h => k1 (y2, y3, y4) h
  have kx : ∀ (y3 : Int32) , bd_X12_momentOf_5 p0 μ x2 x3 x4 = .inr y3 → J E G 3 mX12_momentOf Q 57 [(3, .int y3)] [] μ := fun y3  h => k2 y3 h
  clear k1 k2
  refine J_iload (dk okX12_momentOf 4 rfl) 4 rfl ?_
  refine J_aload_n (dk okX12_momentOf 5 rfl) 0 rfl rfl ?_
  refine J_getI (dk okX12_momentOf 6 rfl) kfX12_111 ds_49 rfl ?_
  refine J_icmp_ge (tgt := 57) (dk okX12_momentOf 7 rfl) (by decide) (fun h1 => ?_) (fun h1 => ?_)
  · exact J_sub [3] rfl (kx x3 (by unfold bd_X12_momentOf_5; first | (simp only [if_pos h1]; done) | (simp only [if_pos h1]; rfl) | rfl))
  · have t := t h1
    refine J_iload_n (dk okX12_momentOf 8 rfl) 3 rfl rfl ?_
    refine J_iload_n (dk okX12_momentOf 9 rfl) 2 rfl rfl ?_
    refine J_aload_n (dk okX12_momentOf 10 rfl) 0 rfl rfl ?_
    refine J_aload_n (dk okX12_momentOf 11 rfl) 1 rfl rfl ?_
    refine J_callVi (As := [rf E p0]) (dk okX12_momentOf 12 rfl) ds_49 rfl vkX12_here lkX12_122 rfl rfl (Nat.le_of_ble_eq_true rfl) (by decide) (con_X12_here hp0 ⟨_, rfl, ?_⟩)
    refine J_iand (dk okX12_momentOf 13 rfl) ?_
    refine J_iload (dk okX12_momentOf 14 rfl) 4 rfl ?_
    refine J_callSi (As := [.int (x2 &&& (v_X12_here p0 μ)), .int x4]) (dk okX12_momentOf 15 rfl) skX12_has lkX12_126 rfl rfl (Nat.le_of_ble_eq_true rfl) (by decide) (con_X12_has  ⟨_, rfl, ?_⟩)
    have K5 : J E G 3 mX12_momentOf Q 49 [(0, rf E 49), (1, rf E p0), (2, .int x2), (4, .int x4)] [.int (if (v_X12_has (x2 &&& (v_X12_here p0 μ)) x4) = 0 then 0 else ((v_X12_load p0 x4 μ) * (μ.1 p0 (Int32.toNatClampNeg (7 + x4)))) : Int32), .int x3] μ := by
      refine J_iadd (dk okX12_momentOf 29 rfl) ?_
      refine J_istore_n (ls' := [(3, _), (0, _), (1, _), (2, _), (4, _)]) (dk okX12_momentOf 30 rfl) rfl (by decide) rfl ?_
      refine J_iinc (v := (x4 + 1)) (ls' := [(4, _), (3, _), (0, _), (1, _), (2, _)]) (dk okX12_momentOf 31 rfl) 4 rfl rfl (by decide) rfl ?_
      refine J_goto (tgt := 5) (dk okX12_momentOf 32 rfl) (by decide) ?_
      exact J_sub [2, 3, 4, 1, 0] rfl (kb x2 (x3 + (if (v_X12_has (x2 &&& (v_X12_here p0 μ)) x4) = 0 then 0 else ((v_X12_load p0 x4 μ) * (μ.1 p0 (Int32.toNatClampNeg (7 + x4)))) : Int32)) (x4 + 1) (by unfold bd_X12_momentOf_5; first | (simp only [if_neg h1]; done) | (simp only [if_neg h1]; rfl) | rfl))
    refine J_if_eq (tgt := 48) (dk okX12_momentOf 16 rfl) (by decide) (fun h2 => ?_) (fun h2 => ?_)
    · refine J_iconst (v := 0) (dk okX12_momentOf 28 rfl) (by decide) ?_
      refine J_sub (ls' := [(0, _), (1, _), (2, _), (4, _)]) [0, 1, 2, 4] rfl ?_
      (try simp only [if_pos h2] at K5 ⊢); exact K5
    · have t := t h2
      refine J_aload_n (dk okX12_momentOf 17 rfl) 0 rfl rfl ?_
      refine J_aload_n (dk okX12_momentOf 18 rfl) 1 rfl rfl ?_
      refine J_iload (dk okX12_momentOf 19 rfl) 4 rfl ?_
      obtain ⟨s3, t⟩ := t
      refine J_callVi (As := [rf E p0, .int x4]) (dk okX12_momentOf 20 rfl) ds_49 rfl vkX12_load lkX12_130 rfl rfl (Nat.le_of_ble_eq_true rfl) (by decide) (con_X12_load hp0 s3 ⟨_, rfl, ?_⟩)
      refine J_aload_n (dk okX12_momentOf 21 rfl) 1 rfl rfl ?_
      refine J_bipush (v := 7) (dk okX12_momentOf 22 rfl) (by decide) ?_
      refine J_iload (dk okX12_momentOf 23 rfl) 4 rfl ?_
      refine J_iadd (dk okX12_momentOf 24 rfl) ?_
      have s4 := t
      refine J_iald (dk okX12_momentOf 25 rfl) hp0 s4 ?_
      refine J_imul (dk okX12_momentOf 26 rfl) ?_
      refine J_goto (tgt := 49) (dk okX12_momentOf 27 rfl) (by decide) ?_
      refine J_sub (ls' := [(0, _), (1, _), (2, _), (4, _)]) [0, 1, 2, 4] rfl ?_
      (try simp only [if_neg h2] at K5 ⊢); exact K5
/-- VotingFloorModel.momentOf([II)I -/
noncomputable def v_X12_momentOf (p0 : Nat) (p1 : Int32) (μ : Mm) : Int32 := (let r2 : Int32 := whl (fun s : Int32 × Int32 × Int32 => bd_X12_momentOf_5 p0 μ s.1 s.2.1 s.2.2) (fun _ : Int32 × Int32 × Int32 => 0) FU (p1, 0, 0); r2)
def p_X12_momentOf (p0 : Nat) (p1 : Int32)  (μ : Mm) : Prop := whP (fun s : Int32 × Int32 × Int32 => bd_X12_momentOf_5 p0 μ s.1 s.2.1 s.2.2) (fun s : Int32 × Int32 × Int32 => sd_X12_momentOf_5 p0  μ s.1 s.2.1 s.2.2) FU (p1, 0, 0)
set_option maxRecDepth 20000 in
set_option maxHeartbeats 4000000 in
theorem con_X12_momentOf {E : Ex} {Q : Option Value → Mm → Prop} {p0 : Nat} {p1 : Int32} {μ : Mm} (hp0 : dscL[p0]? = some (.inr (.inl (1, 24)))) (t : p_X12_momentOf p0 p1  μ) (k : Q (some (.int (v_X12_momentOf p0 p1 μ))) μ) : Con E 3 mX12_momentOf [rf E 49, rf E p0, .int p1] μ Q := by
  refine Con_J (by decide +kernel) (Nat.le_of_ble_eq_true rfl) (fun G => ?_)
  unfold v_X12_momentOf at k
  unfold p_X12_momentOf at t
  refine J_sub (ls' := [(0, rf E 49), (1, rf E p0), (2, .int p1)]) [0, 1, 2] rfl ?_
  refine J_iconst (v := 0) (dk okX12_momentOf 0 rfl) (by decide) ?_
  refine J_istore_n (ls' := [(3, _), (0, _), (1, _), (2, _)]) (dk okX12_momentOf 1 rfl) rfl (by decide) rfl ?_
  refine J_iconst (v := 0) (dk okX12_momentOf 2 rfl) (by decide) ?_
  refine J_istore (ls' := [(4, _), (3, _), (0, _), (1, _), (2, _)]) (dk okX12_momentOf 3 rfl) (by decide) rfl ?_
  have s1 := t
  refine J_sub (ls' := [(0, _), (1, _), (2, _), (3, _), (4, _)]) [2, 3, 4, 1, 0] rfl ?_
  refine lw_X12_momentOf_5 hp0 s1 (fun r2 er2 => ?_)
  refine J_iload_n (dk okX12_momentOf 33 rfl) 0 rfl rfl ?_
  subst er2
  exact J_iret (dk okX12_momentOf 34 rfl) rfl k
/-- VotingFloorModel.noon(I)I -/
noncomputable def v_X12_noon (p0 : Int32) (μ : Mm) : Int32 := (let μ1 : Mm := (upI μ 49 0 0); (let μ3 : Mm := (e_X12_putsBy  μ1); (let μ7 : Mm := (if (v_X12_in (Int32.toInt64 p0) 1 60) = 0 then μ3 else ((e_X12_becomes 23 p0 0 μ3)) : Mm); (v_X12_counted (if (v_X12_in (Int32.toInt64 p0) 1 60) = 0 then (-1) else (v_X12_becomes 23 p0 0 μ3) : Int32) μ7))))
noncomputable def e_X12_noon (p0 : Int32) (μ : Mm) : Mm := (let μ1 : Mm := (upI μ 49 0 0); (let μ3 : Mm := (e_X12_putsBy  μ1); (let μ7 : Mm := (if (v_X12_in (Int32.toInt64 p0) 1 60) = 0 then μ3 else ((e_X12_becomes 23 p0 0 μ3)) : Mm); (let μ9 : Mm := (e_X12_counted (if (v_X12_in (Int32.toInt64 p0) 1 60) = 0 then (-1) else (v_X12_becomes 23 p0 0 μ3) : Int32) μ7); μ9))))
def p_X12_noon (p0 : Int32)  (μ : Mm) : Prop := (∀ μ1 : Mm, μ1 = (upI μ 49 0 0) → (p_X12_putsBy μ1) ∧ (∀ μ3 : Mm, μ3 = (e_X12_putsBy  μ1) → ((¬ ((v_X12_in (Int32.toInt64 p0) 1 60) = 0) → p_X12_becomes 23 p0 0)) ∧ (∀ μ7 : Mm, μ7 = (if (v_X12_in (Int32.toInt64 p0) 1 60) = 0 then μ3 else ((e_X12_becomes 23 p0 0 μ3)) : Mm) → p_X12_counted (if (v_X12_in (Int32.toInt64 p0) 1 60) = 0 then (-1) else (v_X12_becomes 23 p0 0 μ3) : Int32) μ7)))
set_option maxRecDepth 20000 in
set_option maxHeartbeats 4000000 in
theorem con_X12_noon {E : Ex} {Q : Option Value → Mm → Prop} {p0 : Int32} {μ : Mm} (t : p_X12_noon p0  μ) (k : Q (some (.int (v_X12_noon p0 μ))) (e_X12_noon p0 μ)) : Con E 3 mX12_noon [rf E 49, .int p0] μ Q := by
  refine Con_J (by decide +kernel) (Nat.le_of_ble_eq_true rfl) (fun G => ?_)
  unfold v_X12_noon e_X12_noon at k
  unfold p_X12_noon at t
  refine J_sub (ls' := [(0, rf E 49), (1, .int p0)]) [0, 1] rfl ?_
  refine J_aload_n (dk okX12_noon 0 rfl) 0 rfl rfl ?_
  refine J_iconst (v := 0) (dk okX12_noon 1 rfl) (by decide) ?_
  refine J_put (dk okX12_noon 2 rfl) kpX12_3 ds_49 rfl rfl rfl ?_
  refine J_nm (fun μ1 eμ1 => ?_)
  have t := t μ1 eμ1
  refine J_aload_n (dk okX12_noon 3 rfl) 0 rfl rfl ?_
  obtain ⟨s2, t⟩ := t
  refine J_callVv (As := []) (dk okX12_noon 4 rfl) ds_49 rfl vkX12_putsBy lkX12_306 rfl rfl (Nat.le_of_ble_eq_true rfl) (by decide) (con_X12_putsBy s2 ⟨rfl, ?_⟩)
  refine J_nm (fun μ3 eμ3 => ?_)
  have t := t μ3 eμ3
  refine J_aload_n (dk okX12_noon 5 rfl) 0 rfl rfl ?_
  refine J_iload_n (dk okX12_noon 6 rfl) 1 rfl rfl ?_
  refine J_i2l (dk okX12_noon 7 rfl) ?_
  refine J_lconst (v := 1) (dk okX12_noon 8 rfl) (by decide) ?_
  refine J_ldc2 (v := 60) (dk okX12_noon 9 rfl) kcX12_304 ?_
  refine J_callSi (As := [.long (Int32.toInt64 p0), .long 1, .long 60]) (dk okX12_noon 10 rfl) skX12_in lkX12_114 rfl rfl (Nat.le_of_ble_eq_true rfl) (by decide) (con_X12_in  ⟨_, rfl, ?_⟩)
  obtain ⟨t9, t⟩ := t
  have K10 : J E G 3 mX12_noon Q 34 [] [.int (if (v_X12_in (Int32.toInt64 p0) 1 60) = 0 then (-1) else (v_X12_becomes 23 p0 0 μ3) : Int32), rf E 49] (if (v_X12_in (Int32.toInt64 p0) 1 60) = 0 then μ3 else ((e_X12_becomes 23 p0 0 μ3)) : Mm) := by
    refine J_nm (fun μ7 eμ7 => ?_)
    have t := t μ7 eμ7
    have s8 := t
    refine J_callVi (As := [.int (if (v_X12_in (Int32.toInt64 p0) 1 60) = 0 then (-1) else (v_X12_becomes 23 p0 0 μ3) : Int32)]) (dk okX12_noon 19 rfl) ds_49 rfl vkX12_counted lkX12_318 rfl rfl (Nat.le_of_ble_eq_true rfl) (by decide) (con_X12_counted s8 ⟨_, rfl, ?_⟩)
    refine J_nm (fun μ9 eμ9 => ?_)
    subst eμ9 eμ7 eμ3 eμ1
    exact J_iret (dk okX12_noon 20 rfl) rfl k
  have t := t9
  refine J_if_eq (tgt := 33) (dk okX12_noon 11 rfl) (by decide) (fun h4 => ?_) (fun h4 => ?_)
  · refine J_iconst (v := (-1)) (dk okX12_noon 18 rfl) (by decide) ?_
    refine J_sub (ls' := []) [] rfl ?_
    (try simp only [if_pos h4] at K10 ⊢); exact K10
  · have t := t h4
    refine J_aload_n (dk okX12_noon 12 rfl) 0 rfl rfl ?_
    refine J_bipush (v := 23) (dk okX12_noon 13 rfl) (by decide) ?_
    refine J_iload_n (dk okX12_noon 14 rfl) 1 rfl rfl ?_
    refine J_iconst (v := 0) (dk okX12_noon 15 rfl) (by decide) ?_
    have s5 := t
    refine J_callVi (As := [.int 23, .int p0, .int 0]) (dk okX12_noon 16 rfl) ds_49 rfl vkX12_becomes lkX12_296 rfl rfl (Nat.le_of_ble_eq_true rfl) (by decide) (con_X12_becomes s5 ⟨_, rfl, ?_⟩)
    refine J_nm (fun μ6 eμ6 => ?_)
    refine J_goto (tgt := 34) (dk okX12_noon 17 rfl) (by decide) ?_
    subst eμ6
    refine J_sub (ls' := []) [] rfl ?_
    (try simp only [if_neg h4] at K10 ⊢); exact K10
noncomputable def bd_X12_number_13  (x1 : Int32) (x2 : Int32) (x3 : Int32) (μ : Mm) : (Int32 × Int32 × Int32 × Mm) ⊕ (Int32 × Mm) := (if x1 ≤ x3 then .inr (x2, μ) else (if (v_X12_isDigit  μ) = 0 then .inr (x2, μ) else (let μ5 : Mm := (upI μ 49 10 ((μ.1 49 10) + 1)); .inl (x1, (((10 * x2) + (μ.1 54 (Int32.toNatClampNeg (μ.1 49 10)))) - 48), (x3 + 1), μ5))))
def sd_X12_number_13   (x1 : Int32) (x2 : Int32) (x3 : Int32) (μ : Mm) : Prop := (¬ (x1 ≤ x3) → (p_X12_isDigit μ) ∧ (¬ ((v_X12_isDigit  μ) = 0) → vp_in (μ.1 49 10) 80))
set_option maxRecDepth 20000 in
set_option maxHeartbeats 4000000 in
theorem lw_X12_number_13 {E : Ex} {G : Gx} {Q : Option Value → Mm → Prop} {x1 : Int32} {x2 : Int32} {x3 : Int32} {μ : Mm}  (p : whP (fun s : Int32 × Int32 × Int32 × Mm => bd_X12_number_13  s.1 s.2.1 s.2.2.1 s.2.2.2) (fun s : Int32 × Int32 × Int32 × Mm => sd_X12_number_13   s.1 s.2.1 s.2.2.1 s.2.2.2) FU (x1, x2, x3, μ)) (k : ∀ r : Int32 × Mm, r = whl (fun s : Int32 × Int32 × Int32 × Mm => bd_X12_number_13  s.1 s.2.1 s.2.2.1 s.2.2.2) (fun s : Int32 × Int32 × Int32 × Mm => (0, s.2.2.2)) FU (x1, x2, x3, μ) → J E G 3 mX12_number Q 59 [(2, .int (r.1))] [] (r.2)) : J E G 3 mX12_number Q 13 [(0, rf E 49), (1, .int x1), (2, .int x2), (3, .int x3)] [] μ := by
  refine J_whl (f := (fun s : Int32 × Int32 × Int32 × Mm => bd_X12_number_13  s.1 s.2.1 s.2.2.1 s.2.2.2)) (dd := (fun s : Int32 × Int32 × Int32 × Mm => (0, s.2.2.2))) (sd := (fun s : Int32 × Int32 × Int32 × Mm => sd_X12_number_13   s.1 s.2.1 s.2.2.1 s.2.2.2)) (P := fun s : Int32 × Int32 × Int32 × Mm => J E G 3 mX12_number Q 13 [(0, rf E 49), (1, .int (s.1)), (2, .int (s.2.1)), (3, .int (s.2.2.1))] [] (s.2.2.2)) (R := fun r : Int32 × Mm => J E G 3 mX12_number Q 59 [(2, .int (r.1))] [] (r.2)) ?_ FU (x1, x2, x3, μ) p (k _ rfl)
  clear p k
  rintro ⟨x1, x2, x3, μ⟩ t k1 k2
  dsimp only [sd_X12_number_13] at t
  have kb : ∀ (y1 : Int32) (y2 : Int32) (y3 : Int32) (μ9 : Mm), bd_X12_number_13  x1 x2 x3 μ = .inl (y1, y2, y3, μ9) → J E G 3 mX12_number Q 13 [(0, rf E 49), (1, .int y1), (2, .int y2), (3, .int y3)] [] μ9 := fun y1 y2 y3 μ9 h => k1 (y1, y2, y3, μ9) h
  have kx : ∀ (y2 : Int32) (μ9 : Mm), bd_X12_number_13  x1 x2 x3 μ = .inr (y2, μ9) → J E G 3 mX12_number Q 59 [(2, .int y2)] [] μ9 := fun y2 μ9 h => k2 (y2, μ9) h
  clear k1 k2
  refine J_iload_n (dk okX12_number 9 rfl) 3 rfl rfl ?_
  refine J_iload_n (dk okX12_number 10 rfl) 1 rfl rfl ?_
  refine J_icmp_ge (tgt := 59) (dk okX12_number 11 rfl) (by decide) (fun h1 => ?_) (fun h1 => ?_)
  · exact J_sub [2] rfl (kx x2 μ (by unfold bd_X12_number_13; first | (simp only [if_pos h1]; done) | (simp only [if_pos h1]; rfl) | rfl))
  · have t := t h1
    refine J_aload_n (dk okX12_number 12 rfl) 0 rfl rfl ?_
    obtain ⟨s2, t⟩ := t
    refine J_callVi (As := []) (dk okX12_number 13 rfl) ds_49 rfl vkX12_isDigit lkX12_172 rfl rfl (Nat.le_of_ble_eq_true rfl) (by decide) (con_X12_isDigit s2 ⟨_, rfl, ?_⟩)
    refine J_if_eq (tgt := 59) (dk okX12_number 14 rfl) (by decide) (fun h3 => ?_) (fun h3 => ?_)
    · exact J_sub [2] rfl (kx x2 μ (by unfold bd_X12_number_13; first | (simp only [if_neg h1, if_pos h3]; done) | (simp only [if_neg h1, if_pos h3]; rfl) | rfl))
    · have t := t h3
      refine J_bipush (v := 10) (dk okX12_number 15 rfl) (by decide) ?_
      refine J_iload_n (dk okX12_number 16 rfl) 2 rfl rfl ?_
      refine J_imul (dk okX12_number 17 rfl) ?_
      refine J_aload_n (dk okX12_number 18 rfl) 0 rfl rfl ?_
      refine J_getR (dk okX12_number 19 rfl) kfX12_38 ds_49 rfl ?_
      refine J_aload_n (dk okX12_number 20 rfl) 0 rfl rfl ?_
      refine J_getI (dk okX12_number 21 rfl) kfX12_144 ds_49 rfl ?_
      have s4 := t
      refine J_iald (dk okX12_number 22 rfl) ds_54 s4 ?_
      refine J_iadd (dk okX12_number 23 rfl) ?_
      refine J_bipush (v := 48) (dk okX12_number 24 rfl) (by decide) ?_
      refine J_isub (dk okX12_number 25 rfl) ?_
      refine J_istore_n (ls' := [(2, _), (0, _), (1, _), (3, _)]) (dk okX12_number 26 rfl) rfl (by decide) rfl ?_
      refine J_aload_n (dk okX12_number 27 rfl) 1 rfl rfl ?_
      refine J_dup (dk okX12_number 28 rfl) rfl ?_
      refine J_getI (dk okX12_number 29 rfl) kfX12_144 ds_49 rfl ?_
      refine J_iconst (v := 1) (dk okX12_number 30 rfl) (by decide) ?_
      refine J_iadd (dk okX12_number 31 rfl) ?_
      refine J_put (dk okX12_number 32 rfl) kpX12_144 ds_49 rfl rfl rfl ?_
      refine J_nm (fun μ5 eμ5 => ?_)
      refine J_iinc (v := (x3 + 1)) (ls' := [(3, _), (2, _), (0, _), (1, _)]) (dk okX12_number 33 rfl) 3 rfl rfl (by decide) rfl ?_
      refine J_goto (tgt := 13) (dk okX12_number 34 rfl) (by decide) ?_
      exact J_sub [2, 3, 1, 0] rfl (kb x1 (((10 * x2) + (μ.1 54 (Int32.toNatClampNeg (μ.1 49 10)))) - 48) (x3 + 1) μ5 (by subst eμ5; unfold bd_X12_number_13; first | (simp only [if_neg h1, if_neg h3]; done) | (simp only [if_neg h1, if_neg h3]; rfl) | rfl))
/-- VotingFloorModel.number(I)I -/
noncomputable def v_X12_number (p0 : Int32) (μ : Mm) : Int32 := (if (v_X12_isDigit  μ) = 0 then (-1) else (let r4 : Int32 × Mm := whl (fun s : Int32 × Int32 × Int32 × Mm => bd_X12_number_13  s.1 s.2.1 s.2.2.1 s.2.2.2) (fun s : Int32 × Int32 × Int32 × Mm => (0, s.2.2.2)) FU (p0, 0, 0, μ); (r4.1)))
noncomputable def e_X12_number (p0 : Int32) (μ : Mm) : Mm := (if (v_X12_isDigit  μ) = 0 then μ else (let r4 : Int32 × Mm := whl (fun s : Int32 × Int32 × Int32 × Mm => bd_X12_number_13  s.1 s.2.1 s.2.2.1 s.2.2.2) (fun s : Int32 × Int32 × Int32 × Mm => (0, s.2.2.2)) FU (p0, 0, 0, μ); (r4.2)))
def p_X12_number (p0 : Int32)  (μ : Mm) : Prop := (p_X12_isDigit μ) ∧ (¬ ((v_X12_isDigit  μ) = 0) → whP (fun s : Int32 × Int32 × Int32 × Mm => bd_X12_number_13  s.1 s.2.1 s.2.2.1 s.2.2.2) (fun s : Int32 × Int32 × Int32 × Mm => sd_X12_number_13   s.1 s.2.1 s.2.2.1 s.2.2.2) FU (p0, 0, 0, μ))
set_option maxRecDepth 20000 in
set_option maxHeartbeats 4000000 in
theorem con_X12_number {E : Ex} {Q : Option Value → Mm → Prop} {p0 : Int32} {μ : Mm} (t : p_X12_number p0  μ) (k : Q (some (.int (v_X12_number p0 μ))) (e_X12_number p0 μ)) : Con E 3 mX12_number [rf E 49, .int p0] μ Q := by
  refine Con_J (by decide +kernel) (Nat.le_of_ble_eq_true rfl) (fun G => ?_)
  unfold v_X12_number e_X12_number at k
  unfold p_X12_number at t
  refine J_sub (ls' := [(0, rf E 49), (1, .int p0)]) [0, 1] rfl ?_
  refine J_aload_n (dk okX12_number 0 rfl) 0 rfl rfl ?_
  obtain ⟨s1, t⟩ := t
  refine J_callVi (As := []) (dk okX12_number 1 rfl) ds_49 rfl vkX12_isDigit lkX12_172 rfl rfl (Nat.le_of_ble_eq_true rfl) (by decide) (con_X12_isDigit s1 ⟨_, rfl, ?_⟩)
  refine J_if_ne (tgt := 9) (dk okX12_number 2 rfl) (by decide) (fun h2 => ?_) (fun h2 => ?_)
  · have t := t h2
    refine J_iconst (v := 0) (dk okX12_number 5 rfl) (by decide) ?_
    refine J_istore_n (ls' := [(2, _), (0, _), (1, _)]) (dk okX12_number 6 rfl) rfl (by decide) rfl ?_
    refine J_iconst (v := 0) (dk okX12_number 7 rfl) (by decide) ?_
    refine J_istore_n (ls' := [(3, _), (2, _), (0, _), (1, _)]) (dk okX12_number 8 rfl) rfl (by decide) rfl ?_
    have s3 := t
    refine J_sub (ls' := [(0, _), (1, _), (2, _), (3, _)]) [2, 3, 1, 0] rfl ?_
    refine lw_X12_number_13  s3 (fun r4 er4 => ?_)
    refine J_iload_n (dk okX12_number 35 rfl) 0 rfl rfl ?_
    subst er4
    (try simp only [if_neg h2] at k ⊢)
    exact J_iret (dk okX12_number 36 rfl) rfl k
  · refine J_iconst (v := (-1)) (dk okX12_number 3 rfl) (by decide) ?_
    (try simp only [if_pos h2] at k ⊢)
    exact J_iret (dk okX12_number 4 rfl) rfl k
noncomputable def bd_X12_othersOn_5 (p0 : Nat) (μ : Mm) (x2 : Int32) (x3 : Int32) (x4 : Int32) : (Int32 × Int32 × Int32) ⊕ (Int32) := (if (μ.1 49 3) ≤ x4 then .inr x3 else .inl (x2, (x3 + (v_X12_flag (if x4 = x2 then 0 else (if (v_X12_has (v_X12_here p0 μ) x4) = 0 then 0 else (if (μ.1 p0 (Int32.toNatClampNeg (7 + x4))) = (μ.1 p0 (Int32.toNatClampNeg (7 + x2))) then 1 else 0 : Int32) : Int32) : Int32))), (x4 + 1)))
def sd_X12_othersOn_5 (p0 : Nat)  (μ : Mm) (x2 : Int32) (x3 : Int32) (x4 : Int32) : Prop := (¬ ((μ.1 49 3) ≤ x4) → (¬ (x4 = x2) → (¬ ((v_X12_has (v_X12_here p0 μ) x4) = 0) → (vp_in (7 + x4) 24) ∧ vp_in (7 + x2) 24)))
set_option maxRecDepth 20000 in
set_option maxHeartbeats 4000000 in
theorem lw_X12_othersOn_5 {E : Ex} {G : Gx} {Q : Option Value → Mm → Prop} {p0 : Nat} {x2 : Int32} {x3 : Int32} {x4 : Int32} {μ : Mm} (hp0 : dscL[p0]? = some (.inr (.inl (1, 24)))) (p : whP (fun s : Int32 × Int32 × Int32 => bd_X12_othersOn_5 p0 μ s.1 s.2.1 s.2.2) (fun s : Int32 × Int32 × Int32 => sd_X12_othersOn_5 p0  μ s.1 s.2.1 s.2.2) FU (x2, x3, x4)) (k : ∀ r : Int32, r = whl (fun s : Int32 × Int32 × Int32 => bd_X12_othersOn_5 p0 μ s.1 s.2.1 s.2.2) (fun _ : Int32 × Int32 × Int32 => 0) FU (x2, x3, x4) → J E G 3 mX12_othersOn Q 66 [(3, .int r)] [] μ) : J E G 3 mX12_othersOn Q 5 [(0, rf E 49), (1, rf E p0), (2, .int x2), (3, .int x3), (4, .int x4)] [] μ := by
  refine J_whl (f := (fun s : Int32 × Int32 × Int32 => bd_X12_othersOn_5 p0 μ s.1 s.2.1 s.2.2)) (dd := (fun _ : Int32 × Int32 × Int32 => 0)) (sd := (fun s : Int32 × Int32 × Int32 => sd_X12_othersOn_5 p0  μ s.1 s.2.1 s.2.2)) (P := fun s : Int32 × Int32 × Int32 => J E G 3 mX12_othersOn Q 5 [(0, rf E 49), (1, rf E p0), (2, .int (s.1)), (3, .int (s.2.1)), (4, .int (s.2.2))] [] (μ)) (R := fun r : Int32 => J E G 3 mX12_othersOn Q 66 [(3, .int r)] [] μ) ?_ FU (x2, x3, x4) p (k _ rfl)
  clear p k
  rintro ⟨x2, x3, x4⟩ t k1 k2
  dsimp only [sd_X12_othersOn_5] at t
  have kb : ∀ (y2 : Int32) (y3 : Int32) (y4 : Int32) , bd_X12_othersOn_5 p0 μ x2 x3 x4 = .inl (y2, y3, y4) → J E G 3 mX12_othersOn Q 5 [(0, rf E 49), (1, rf E p0), (2, .int y2), (3, .int y3), (4, .int y4)] [] μ := fun y2 y3 y4  h => k1 (y2, y3, y4) h
  have kx : ∀ (y3 : Int32) , bd_X12_othersOn_5 p0 μ x2 x3 x4 = .inr y3 → J E G 3 mX12_othersOn Q 66 [(3, .int y3)] [] μ := fun y3  h => k2 y3 h
  clear k1 k2
  refine J_iload (dk okX12_othersOn 4 rfl) 4 rfl ?_
  refine J_aload_n (dk okX12_othersOn 5 rfl) 0 rfl rfl ?_
  refine J_getI (dk okX12_othersOn 6 rfl) kfX12_111 ds_49 rfl ?_
  refine J_icmp_ge (tgt := 66) (dk okX12_othersOn 7 rfl) (by decide) (fun h1 => ?_) (fun h1 => ?_)
  · exact J_sub [3] rfl (kx x3 (by unfold bd_X12_othersOn_5; first | (simp only [if_pos h1]; done) | (simp only [if_pos h1]; rfl) | rfl))
  · have t := t h1
    refine J_iload_n (dk okX12_othersOn 8 rfl) 3 rfl rfl ?_
    refine J_iload (dk okX12_othersOn 9 rfl) 4 rfl ?_
    refine J_iload_n (dk okX12_othersOn 10 rfl) 2 rfl rfl ?_
    have K7 : J E G 3 mX12_othersOn Q 55 [(0, rf E 49), (1, rf E p0), (2, .int x2), (4, .int x4)] [.int (if x4 = x2 then 0 else (if (v_X12_has (v_X12_here p0 μ) x4) = 0 then 0 else (if (μ.1 p0 (Int32.toNatClampNeg (7 + x4))) = (μ.1 p0 (Int32.toNatClampNeg (7 + x2))) then 1 else 0 : Int32) : Int32) : Int32), .int x3] μ := by
      refine J_callSi (As := [.int (if x4 = x2 then 0 else (if (v_X12_has (v_X12_here p0 μ) x4) = 0 then 0 else (if (μ.1 p0 (Int32.toNatClampNeg (7 + x4))) = (μ.1 p0 (Int32.toNatClampNeg (7 + x2))) then 1 else 0 : Int32) : Int32) : Int32)]) (dk okX12_othersOn 32 rfl) skX12_flag lkX12_137 rfl rfl (Nat.le_of_ble_eq_true rfl) (by decide) (con_X12_flag  ⟨_, rfl, ?_⟩)
      refine J_iadd (dk okX12_othersOn 33 rfl) ?_
      refine J_istore_n (ls' := [(3, _), (0, _), (1, _), (2, _), (4, _)]) (dk okX12_othersOn 34 rfl) rfl (by decide) rfl ?_
      refine J_iinc (v := (x4 + 1)) (ls' := [(4, _), (3, _), (0, _), (1, _), (2, _)]) (dk okX12_othersOn 35 rfl) 4 rfl rfl (by decide) rfl ?_
      refine J_goto (tgt := 5) (dk okX12_othersOn 36 rfl) (by decide) ?_
      exact J_sub [2, 3, 4, 1, 0] rfl (kb x2 (x3 + (v_X12_flag (if x4 = x2 then 0 else (if (v_X12_has (v_X12_here p0 μ) x4) = 0 then 0 else (if (μ.1 p0 (Int32.toNatClampNeg (7 + x4))) = (μ.1 p0 (Int32.toNatClampNeg (7 + x2))) then 1 else 0 : Int32) : Int32) : Int32))) (x4 + 1) (by unfold bd_X12_othersOn_5; first | (simp only [if_neg h1]; done) | (simp only [if_neg h1]; rfl) | rfl))
    refine J_icmp_eq (tgt := 54) (dk okX12_othersOn 11 rfl) (by decide) (fun h2 => ?_) (fun h2 => ?_)
    · refine J_iconst (v := 0) (dk okX12_othersOn 31 rfl) (by decide) ?_
      refine J_sub (ls' := [(0, _), (1, _), (2, _), (4, _)]) [0, 1, 2, 4] rfl ?_
      (try simp only [if_pos h2] at K7 ⊢); exact K7
    · have t := t h2
      refine J_aload_n (dk okX12_othersOn 12 rfl) 0 rfl rfl ?_
      refine J_aload_n (dk okX12_othersOn 13 rfl) 1 rfl rfl ?_
      refine J_callVi (As := [rf E p0]) (dk okX12_othersOn 14 rfl) ds_49 rfl vkX12_here lkX12_122 rfl rfl (Nat.le_of_ble_eq_true rfl) (by decide) (con_X12_here hp0 ⟨_, rfl, ?_⟩)
      refine J_iload (dk okX12_othersOn 15 rfl) 4 rfl ?_
      refine J_callSi (As := [.int (v_X12_here p0 μ), .int x4]) (dk okX12_othersOn 16 rfl) skX12_has lkX12_126 rfl rfl (Nat.le_of_ble_eq_true rfl) (by decide) (con_X12_has  ⟨_, rfl, ?_⟩)
      refine J_if_eq (tgt := 54) (dk okX12_othersOn 17 rfl) (by decide) (fun h3 => ?_) (fun h3 => ?_)
      · refine J_iconst (v := 0) (dk okX12_othersOn 31 rfl) (by decide) ?_
        refine J_sub (ls' := [(0, _), (1, _), (2, _), (4, _)]) [0, 1, 2, 4] rfl ?_
        (try simp only [if_neg h2, if_pos h3] at K7 ⊢); exact K7
      · have t := t h3
        refine J_aload_n (dk okX12_othersOn 18 rfl) 1 rfl rfl ?_
        refine J_bipush (v := 7) (dk okX12_othersOn 19 rfl) (by decide) ?_
        refine J_iload (dk okX12_othersOn 20 rfl) 4 rfl ?_
        refine J_iadd (dk okX12_othersOn 21 rfl) ?_
        obtain ⟨s4, t⟩ := t
        refine J_iald (dk okX12_othersOn 22 rfl) hp0 s4 ?_
        refine J_aload_n (dk okX12_othersOn 23 rfl) 1 rfl rfl ?_
        refine J_bipush (v := 7) (dk okX12_othersOn 24 rfl) (by decide) ?_
        refine J_iload_n (dk okX12_othersOn 25 rfl) 2 rfl rfl ?_
        refine J_iadd (dk okX12_othersOn 26 rfl) ?_
        have s5 := t
        refine J_iald (dk okX12_othersOn 27 rfl) hp0 s5 ?_
        refine J_icmp_ne (tgt := 54) (dk okX12_othersOn 28 rfl) (by decide) (fun h6 => ?_) (fun h6 => ?_)
        · refine J_iconst (v := 0) (dk okX12_othersOn 31 rfl) (by decide) ?_
          refine J_sub (ls' := [(0, _), (1, _), (2, _), (4, _)]) [0, 1, 2, 4] rfl ?_
          (try simp only [if_neg h2, if_neg h3, if_neg h6] at K7 ⊢); exact K7
        · refine J_iconst (v := 1) (dk okX12_othersOn 29 rfl) (by decide) ?_
          refine J_goto (tgt := 55) (dk okX12_othersOn 30 rfl) (by decide) ?_
          refine J_sub (ls' := [(0, _), (1, _), (2, _), (4, _)]) [0, 1, 2, 4] rfl ?_
          (try simp only [if_neg h2, if_neg h3, if_pos h6] at K7 ⊢); exact K7
/-- VotingFloorModel.othersOn([II)I -/
noncomputable def v_X12_othersOn (p0 : Nat) (p1 : Int32) (μ : Mm) : Int32 := (let r2 : Int32 := whl (fun s : Int32 × Int32 × Int32 => bd_X12_othersOn_5 p0 μ s.1 s.2.1 s.2.2) (fun _ : Int32 × Int32 × Int32 => 0) FU (p1, 0, 0); r2)
def p_X12_othersOn (p0 : Nat) (p1 : Int32)  (μ : Mm) : Prop := whP (fun s : Int32 × Int32 × Int32 => bd_X12_othersOn_5 p0 μ s.1 s.2.1 s.2.2) (fun s : Int32 × Int32 × Int32 => sd_X12_othersOn_5 p0  μ s.1 s.2.1 s.2.2) FU (p1, 0, 0)
set_option maxRecDepth 20000 in
set_option maxHeartbeats 4000000 in
theorem con_X12_othersOn {E : Ex} {Q : Option Value → Mm → Prop} {p0 : Nat} {p1 : Int32} {μ : Mm} (hp0 : dscL[p0]? = some (.inr (.inl (1, 24)))) (t : p_X12_othersOn p0 p1  μ) (k : Q (some (.int (v_X12_othersOn p0 p1 μ))) μ) : Con E 3 mX12_othersOn [rf E 49, rf E p0, .int p1] μ Q := by
  refine Con_J (by decide +kernel) (Nat.le_of_ble_eq_true rfl) (fun G => ?_)
  unfold v_X12_othersOn at k
  unfold p_X12_othersOn at t
  refine J_sub (ls' := [(0, rf E 49), (1, rf E p0), (2, .int p1)]) [0, 1, 2] rfl ?_
  refine J_iconst (v := 0) (dk okX12_othersOn 0 rfl) (by decide) ?_
  refine J_istore_n (ls' := [(3, _), (0, _), (1, _), (2, _)]) (dk okX12_othersOn 1 rfl) rfl (by decide) rfl ?_
  refine J_iconst (v := 0) (dk okX12_othersOn 2 rfl) (by decide) ?_
  refine J_istore (ls' := [(4, _), (3, _), (0, _), (1, _), (2, _)]) (dk okX12_othersOn 3 rfl) (by decide) rfl ?_
  have s1 := t
  refine J_sub (ls' := [(0, _), (1, _), (2, _), (3, _), (4, _)]) [2, 3, 4, 1, 0] rfl ?_
  refine lw_X12_othersOn_5 hp0 s1 (fun r2 er2 => ?_)
  refine J_iload_n (dk okX12_othersOn 37 rfl) 0 rfl rfl ?_
  subst er2
  exact J_iret (dk okX12_othersOn 38 rfl) rfl k
noncomputable def bd_X12_ruled_4  (x1 : Int32) (x2 : Int32) (μ : Mm) : (Int32 × Int32 × Mm) ⊕ (Mm) := (if (μ.1 49 19) ≤ x2 then .inr μ else (let μ18 : Mm := (if (μ.1 57 (Int32.toNatClampNeg x2)) = 3000 then ((upI μ 59 (Int32.toNatClampNeg (x1 - 1)) (-(μ.1 59 (Int32.toNatClampNeg (x1 - 1)))))) else (if (μ.1 57 (Int32.toNatClampNeg x2)) < 2000 then ((upI μ 59 (Int32.toNatClampNeg x1) (if (μ.1 57 (Int32.toNatClampNeg x2)) < 1000 then (μ.1 57 (Int32.toNatClampNeg x2)) else (μ.1 60 (Int32.toNatClampNeg ((μ.1 57 (Int32.toNatClampNeg x2)) - 1000))) : Int32))) else ((upI μ 59 (Int32.toNatClampNeg ((x1 + (-1)) - 1)) (v_X12_worked ((μ.1 57 (Int32.toNatClampNeg x2)) - 2000) (μ.1 59 (Int32.toNatClampNeg ((x1 + (-1)) - 1))) (μ.1 59 (Int32.toNatClampNeg (x1 + (-1))))))) : Mm) : Mm); .inl ((if (μ.1 57 (Int32.toNatClampNeg x2)) = 3000 then x1 else (if (μ.1 57 (Int32.toNatClampNeg x2)) < 2000 then (x1 + 1) else (x1 + (-1)) : Int32) : Int32), (x2 + 1), μ18)))
def sd_X12_ruled_4   (x1 : Int32) (x2 : Int32) (μ : Mm) : Prop := (¬ ((μ.1 49 19) ≤ x2) → (vp_in x2 80) ∧ (((μ.1 57 (Int32.toNatClampNeg x2)) = 3000 → (vp_in (x1 - 1) 80) ∧ vp_in (x1 - 1) 80) ∧ (¬ ((μ.1 57 (Int32.toNatClampNeg x2)) = 3000) → (((μ.1 57 (Int32.toNatClampNeg x2)) < 2000 → ((¬ ((μ.1 57 (Int32.toNatClampNeg x2)) < 1000) → vp_in ((μ.1 57 (Int32.toNatClampNeg x2)) - 1000) 7)) ∧ vp_in x1 80) ∧ (¬ ((μ.1 57 (Int32.toNatClampNeg x2)) < 2000) → (vp_in ((x1 + (-1)) - 1) 80) ∧ (vp_in (x1 + (-1)) 80) ∧ (p_X12_worked ((μ.1 57 (Int32.toNatClampNeg x2)) - 2000) (μ.1 59 (Int32.toNatClampNeg ((x1 + (-1)) - 1))) (μ.1 59 (Int32.toNatClampNeg (x1 + (-1))))) ∧ vp_in ((x1 + (-1)) - 1) 80)))))
set_option maxRecDepth 20000 in
set_option maxHeartbeats 4000000 in
theorem lw_X12_ruled_4 {E : Ex} {G : Gx} {Q : Option Value → Mm → Prop} {x1 : Int32} {x2 : Int32} {μ : Mm}  (p : whP (fun s : Int32 × Int32 × Mm => bd_X12_ruled_4  s.1 s.2.1 s.2.2) (fun s : Int32 × Int32 × Mm => sd_X12_ruled_4   s.1 s.2.1 s.2.2) FU (x1, x2, μ)) (k : ∀ r : Mm, r = whl (fun s : Int32 × Int32 × Mm => bd_X12_ruled_4  s.1 s.2.1 s.2.2) (fun s : Int32 × Int32 × Mm => s.2.2) FU (x1, x2, μ) → J E G 3 mX12_ruled Q 125 [(0, rf E 49)] [] r) : J E G 3 mX12_ruled Q 4 [(0, rf E 49), (1, .int x1), (2, .int x2)] [] μ := by
  refine J_whl (f := (fun s : Int32 × Int32 × Mm => bd_X12_ruled_4  s.1 s.2.1 s.2.2)) (dd := (fun s : Int32 × Int32 × Mm => s.2.2)) (sd := (fun s : Int32 × Int32 × Mm => sd_X12_ruled_4   s.1 s.2.1 s.2.2)) (P := fun s : Int32 × Int32 × Mm => J E G 3 mX12_ruled Q 4 [(0, rf E 49), (1, .int (s.1)), (2, .int (s.2.1))] [] (s.2.2)) (R := fun r : Mm => J E G 3 mX12_ruled Q 125 [(0, rf E 49)] [] r) ?_ FU (x1, x2, μ) p (k _ rfl)
  clear p k
  rintro ⟨x1, x2, μ⟩ t k1 k2
  dsimp only [sd_X12_ruled_4] at t
  have kb : ∀ (y1 : Int32) (y2 : Int32) (μ9 : Mm), bd_X12_ruled_4  x1 x2 μ = .inl (y1, y2, μ9) → J E G 3 mX12_ruled Q 4 [(0, rf E 49), (1, .int y1), (2, .int y2)] [] μ9 := fun y1 y2 μ9 h => k1 (y1, y2, μ9) h
  have kx : ∀  (μ9 : Mm), bd_X12_ruled_4  x1 x2 μ = .inr μ9 → J E G 3 mX12_ruled Q 125 [(0, rf E 49)] [] μ9 := fun  μ9 h => k2 μ9 h
  clear k1 k2
  refine J_iload_n (dk okX12_ruled 4 rfl) 2 rfl rfl ?_
  refine J_aload_n (dk okX12_ruled 5 rfl) 0 rfl rfl ?_
  refine J_getI (dk okX12_ruled 6 rfl) kfX12_240 ds_49 rfl ?_
  refine J_icmp_ge (tgt := 125) (dk okX12_ruled 7 rfl) (by decide) (fun h1 => ?_) (fun h1 => ?_)
  · exact J_sub [0] rfl (kx μ (by unfold bd_X12_ruled_4; first | (simp only [if_pos h1]; done) | (simp only [if_pos h1]; rfl) | rfl))
  · have t := t h1
    refine J_aload_n (dk okX12_ruled 8 rfl) 0 rfl rfl ?_
    refine J_getR (dk okX12_ruled 9 rfl) kfX12_47 ds_49 rfl ?_
    refine J_iload_n (dk okX12_ruled 10 rfl) 2 rfl rfl ?_
    obtain ⟨s2, t⟩ := t
    refine J_iald (dk okX12_ruled 11 rfl) ds_57 s2 ?_
    refine J_istore_n (ls' := [(3, _), (0, _), (1, _), (2, _)]) (dk okX12_ruled 12 rfl) rfl (by decide) rfl ?_
    refine J_iload_n (dk okX12_ruled 13 rfl) 0 rfl rfl ?_
    refine J_sipush (v := 3000) (dk okX12_ruled 14 rfl) (by decide) ?_
    have K19 : J E G 3 mX12_ruled Q 119 [(0, rf E 49), (1, .int (if (μ.1 57 (Int32.toNatClampNeg x2)) = 3000 then x1 else (if (μ.1 57 (Int32.toNatClampNeg x2)) < 2000 then (x1 + 1) else (x1 + (-1)) : Int32) : Int32)), (2, .int x2)] [] (if (μ.1 57 (Int32.toNatClampNeg x2)) = 3000 then ((upI μ 59 (Int32.toNatClampNeg (x1 - 1)) (-(μ.1 59 (Int32.toNatClampNeg (x1 - 1)))))) else (if (μ.1 57 (Int32.toNatClampNeg x2)) < 2000 then ((upI μ 59 (Int32.toNatClampNeg x1) (if (μ.1 57 (Int32.toNatClampNeg x2)) < 1000 then (μ.1 57 (Int32.toNatClampNeg x2)) else (μ.1 60 (Int32.toNatClampNeg ((μ.1 57 (Int32.toNatClampNeg x2)) - 1000))) : Int32))) else ((upI μ 59 (Int32.toNatClampNeg ((x1 + (-1)) - 1)) (v_X12_worked ((μ.1 57 (Int32.toNatClampNeg x2)) - 2000) (μ.1 59 (Int32.toNatClampNeg ((x1 + (-1)) - 1))) (μ.1 59 (Int32.toNatClampNeg (x1 + (-1))))))) : Mm) : Mm) := by
      refine J_nm (fun μ18 eμ18 => ?_)
      refine J_iinc (v := (x2 + 1)) (ls' := [(2, _), (0, _), (1, _)]) (dk okX12_ruled 71 rfl) 2 rfl rfl (by decide) rfl ?_
      refine J_goto (tgt := 4) (dk okX12_ruled 72 rfl) (by decide) ?_
      exact J_sub [1, 2, 0] rfl (kb (if (μ.1 57 (Int32.toNatClampNeg x2)) = 3000 then x1 else (if (μ.1 57 (Int32.toNatClampNeg x2)) < 2000 then (x1 + 1) else (x1 + (-1)) : Int32) : Int32) (x2 + 1) μ18 (by subst eμ18; unfold bd_X12_ruled_4; first | (simp only [if_neg h1]; done) | (simp only [if_neg h1]; rfl) | rfl))
    refine J_icmp_ne (tgt := 46) (dk okX12_ruled 15 rfl) (by decide) (fun h3 => ?_) (fun h3 => ?_)
    · have t := t.2 h3
      refine J_iload_n (dk okX12_ruled 30 rfl) 0 rfl rfl ?_
      refine J_sipush (v := 2000) (dk okX12_ruled 31 rfl) (by decide) ?_
      refine J_icmp_lt (tgt := 89) (dk okX12_ruled 32 rfl) (by decide) (fun h7 => ?_) (fun h7 => ?_)
      · have t := t.1 h7
        refine J_aload_n (dk okX12_ruled 55 rfl) 1 rfl rfl ?_
        refine J_getR (dk okX12_ruled 56 rfl) kfX12_53 ds_49 rfl ?_
        refine J_iload_n (dk okX12_ruled 57 rfl) 2 rfl rfl ?_
        refine J_iload_n (dk okX12_ruled 58 rfl) 0 rfl rfl ?_
        refine J_sipush (v := 1000) (dk okX12_ruled 59 rfl) (by decide) ?_
        obtain ⟨t9, t⟩ := t
        have K10 : J E G 3 mX12_ruled Q 115 [(0, rf E 49), (1, .int x1), (2, .int x2)] [.int (if (μ.1 57 (Int32.toNatClampNeg x2)) < 1000 then (μ.1 57 (Int32.toNatClampNeg x2)) else (μ.1 60 (Int32.toNatClampNeg ((μ.1 57 (Int32.toNatClampNeg x2)) - 1000))) : Int32), .int x1, rf E 59] μ := by
          have s11 := t
          refine J_iast (dk okX12_ruled 69 rfl) ds_59 s11 ?_
          refine J_nm (fun μ12 eμ12 => ?_)
          refine J_iinc (v := (x1 + 1)) (ls' := [(1, _), (0, _), (2, _)]) (dk okX12_ruled 70 rfl) 1 rfl rfl (by decide) rfl ?_
          subst eμ12
          refine J_sub (ls' := [(0, _), (1, _), (2, _)]) [1, 0, 2] rfl ?_
          (try simp only [if_neg h3, if_pos h7] at K19 ⊢); exact K19
        have t := t9
        refine J_icmp_lt (tgt := 114) (dk okX12_ruled 60 rfl) (by decide) (fun h8 => ?_) (fun h8 => ?_)
        · refine J_iload_n (dk okX12_ruled 68 rfl) 0 rfl rfl ?_
          refine J_sub (ls' := [(0, _), (1, _), (2, _)]) [1, 2, 3] rfl ?_
          (try simp only [if_pos h8] at K10 ⊢); exact K10
        · have t := t h8
          refine J_aload_n (dk okX12_ruled 61 rfl) 1 rfl rfl ?_
          refine J_getR (dk okX12_ruled 62 rfl) kfX12_56 ds_49 rfl ?_
          refine J_iload_n (dk okX12_ruled 63 rfl) 0 rfl rfl ?_
          refine J_sipush (v := 1000) (dk okX12_ruled 64 rfl) (by decide) ?_
          refine J_isub (dk okX12_ruled 65 rfl) ?_
          have s9 := t
          refine J_iald (dk okX12_ruled 66 rfl) ds_60 s9 ?_
          refine J_goto (tgt := 115) (dk okX12_ruled 67 rfl) (by decide) ?_
          refine J_sub (ls' := [(0, _), (1, _), (2, _)]) [1, 2, 3] rfl ?_
          (try simp only [if_neg h8] at K10 ⊢); exact K10
      · have t := t.2 h7
        refine J_iinc (v := (x1 + (-1))) (ls' := [(1, _), (3, _), (0, _), (2, _)]) (dk okX12_ruled 33 rfl) 2 rfl rfl (by decide) rfl ?_
        refine J_aload_n (dk okX12_ruled 34 rfl) 2 rfl rfl ?_
        refine J_getR (dk okX12_ruled 35 rfl) kfX12_53 ds_49 rfl ?_
        refine J_iload_n (dk okX12_ruled 36 rfl) 0 rfl rfl ?_
        refine J_iconst (v := 1) (dk okX12_ruled 37 rfl) (by decide) ?_
        refine J_isub (dk okX12_ruled 38 rfl) ?_
        refine J_iload_n (dk okX12_ruled 39 rfl) 1 rfl rfl ?_
        refine J_sipush (v := 2000) (dk okX12_ruled 40 rfl) (by decide) ?_
        refine J_isub (dk okX12_ruled 41 rfl) ?_
        refine J_aload_n (dk okX12_ruled 42 rfl) 2 rfl rfl ?_
        refine J_getR (dk okX12_ruled 43 rfl) kfX12_53 ds_49 rfl ?_
        refine J_iload_n (dk okX12_ruled 44 rfl) 0 rfl rfl ?_
        refine J_iconst (v := 1) (dk okX12_ruled 45 rfl) (by decide) ?_
        refine J_isub (dk okX12_ruled 46 rfl) ?_
        obtain ⟨s13, t⟩ := t
        refine J_iald (dk okX12_ruled 47 rfl) ds_59 s13 ?_
        refine J_aload_n (dk okX12_ruled 48 rfl) 2 rfl rfl ?_
        refine J_getR (dk okX12_ruled 49 rfl) kfX12_53 ds_49 rfl ?_
        refine J_iload_n (dk okX12_ruled 50 rfl) 0 rfl rfl ?_
        obtain ⟨s14, t⟩ := t
        refine J_iald (dk okX12_ruled 51 rfl) ds_59 s14 ?_
        obtain ⟨s15, t⟩ := t
        refine J_callSi (As := [.int ((μ.1 57 (Int32.toNatClampNeg x2)) - 2000), .int (μ.1 59 (Int32.toNatClampNeg ((x1 + (-1)) - 1))), .int (μ.1 59 (Int32.toNatClampNeg (x1 + (-1))))]) (dk okX12_ruled 52 rfl) skX12_worked lkX12_250 rfl rfl (Nat.le_of_ble_eq_true rfl) (by decide) (con_X12_worked s15 ⟨_, rfl, ?_⟩)
        have s16 := t
        refine J_iast (dk okX12_ruled 53 rfl) ds_59 s16 ?_
        refine J_nm (fun μ17 eμ17 => ?_)
        refine J_goto (tgt := 119) (dk okX12_ruled 54 rfl) (by decide) ?_
        subst eμ17
        refine J_sub (ls' := [(0, _), (1, _), (2, _)]) [2, 0, 3] rfl ?_
        (try simp only [if_neg h3, if_neg h7] at K19 ⊢); exact K19
    · have t := t.1 h3
      refine J_aload_n (dk okX12_ruled 16 rfl) 1 rfl rfl ?_
      refine J_getR (dk okX12_ruled 17 rfl) kfX12_53 ds_49 rfl ?_
      refine J_iload_n (dk okX12_ruled 18 rfl) 2 rfl rfl ?_
      refine J_iconst (v := 1) (dk okX12_ruled 19 rfl) (by decide) ?_
      refine J_isub (dk okX12_ruled 20 rfl) ?_
      refine J_aload_n (dk okX12_ruled 21 rfl) 1 rfl rfl ?_
      refine J_getR (dk okX12_ruled 22 rfl) kfX12_53 ds_49 rfl ?_
      refine J_iload_n (dk okX12_ruled 23 rfl) 2 rfl rfl ?_
      refine J_iconst (v := 1) (dk okX12_ruled 24 rfl) (by decide) ?_
      refine J_isub (dk okX12_ruled 25 rfl) ?_
      obtain ⟨s4, t⟩ := t
      refine J_iald (dk okX12_ruled 26 rfl) ds_59 s4 ?_
      refine J_ineg (dk okX12_ruled 27 rfl) ?_
      have s5 := t
      refine J_iast (dk okX12_ruled 28 rfl) ds_59 s5 ?_
      refine J_nm (fun μ6 eμ6 => ?_)
      refine J_goto (tgt := 119) (dk okX12_ruled 29 rfl) (by decide) ?_
      subst eμ6
      refine J_sub (ls' := [(0, _), (1, _), (2, _)]) [1, 2, 3] rfl ?_
      (try simp only [if_pos h3] at K19 ⊢); exact K19
/-- VotingFloorModel.ruled()I -/
noncomputable def v_X12_ruled  (μ : Mm) : Int32 := (let r2 : Mm := whl (fun s : Int32 × Int32 × Mm => bd_X12_ruled_4  s.1 s.2.1 s.2.2) (fun s : Int32 × Int32 × Mm => s.2.2) FU (0, 0, μ); (if (r2.1 49 19) = 0 then ((r2.1 60 (Int32.toNatClampNeg 0)) - (r2.1 60 (Int32.toNatClampNeg 1))) else (r2.1 59 (Int32.toNatClampNeg 0)) : Int32))
noncomputable def e_X12_ruled  (μ : Mm) : Mm := (let r2 : Mm := whl (fun s : Int32 × Int32 × Mm => bd_X12_ruled_4  s.1 s.2.1 s.2.2) (fun s : Int32 × Int32 × Mm => s.2.2) FU (0, 0, μ); r2)
def p_X12_ruled   (μ : Mm) : Prop := whP (fun s : Int32 × Int32 × Mm => bd_X12_ruled_4  s.1 s.2.1 s.2.2) (fun s : Int32 × Int32 × Mm => sd_X12_ruled_4   s.1 s.2.1 s.2.2) FU (0, 0, μ)
set_option maxRecDepth 20000 in
set_option maxHeartbeats 4000000 in
theorem con_X12_ruled {E : Ex} {Q : Option Value → Mm → Prop} {μ : Mm} (t : p_X12_ruled   μ) (k : Q (some (.int (v_X12_ruled  μ))) (e_X12_ruled  μ)) : Con E 3 mX12_ruled [rf E 49] μ Q := by
  refine Con_J (by decide +kernel) (Nat.le_of_ble_eq_true rfl) (fun G => ?_)
  unfold v_X12_ruled e_X12_ruled at k
  unfold p_X12_ruled at t
  refine J_sub (ls' := [(0, rf E 49)]) [0] rfl ?_
  refine J_iconst (v := 0) (dk okX12_ruled 0 rfl) (by decide) ?_
  refine J_istore_n (ls' := [(1, _), (0, _)]) (dk okX12_ruled 1 rfl) rfl (by decide) rfl ?_
  refine J_iconst (v := 0) (dk okX12_ruled 2 rfl) (by decide) ?_
  refine J_istore_n (ls' := [(2, _), (1, _), (0, _)]) (dk okX12_ruled 3 rfl) rfl (by decide) rfl ?_
  have s1 := t
  refine J_sub (ls' := [(0, _), (1, _), (2, _)]) [2, 1, 0] rfl ?_
  refine lw_X12_ruled_4  s1 (fun r2 er2 => ?_)
  refine J_aload_n (dk okX12_ruled 73 rfl) 0 rfl rfl ?_
  refine J_getI (dk okX12_ruled 74 rfl) kfX12_240 ds_49 rfl ?_
  have K4 : J E G 3 mX12_ruled Q 154 [] [.int (if (r2.1 49 19) = 0 then ((r2.1 60 (Int32.toNatClampNeg 0)) - (r2.1 60 (Int32.toNatClampNeg 1))) else (r2.1 59 (Int32.toNatClampNeg 0)) : Int32)] r2 := by
    subst er2
    exact J_iret (dk okX12_ruled 90 rfl) rfl k
  refine J_if_ne (tgt := 148) (dk okX12_ruled 75 rfl) (by decide) (fun h3 => ?_) (fun h3 => ?_)
  · refine J_aload_n (dk okX12_ruled 86 rfl) 0 rfl rfl ?_
    refine J_getR (dk okX12_ruled 87 rfl) kfX12_53 ds_49 rfl ?_
    refine J_iconst (v := 0) (dk okX12_ruled 88 rfl) (by decide) ?_
    refine J_iald (dk okX12_ruled 89 rfl) ds_59 (by unfold vp_in; decide) ?_
    refine J_sub (ls' := []) [] rfl ?_
    (try simp only [if_neg h3] at K4 ⊢); exact K4
  · refine J_aload_n (dk okX12_ruled 76 rfl) 0 rfl rfl ?_
    refine J_getR (dk okX12_ruled 77 rfl) kfX12_56 ds_49 rfl ?_
    refine J_iconst (v := 0) (dk okX12_ruled 78 rfl) (by decide) ?_
    refine J_iald (dk okX12_ruled 79 rfl) ds_60 (by unfold vp_in; decide) ?_
    refine J_aload_n (dk okX12_ruled 80 rfl) 0 rfl rfl ?_
    refine J_getR (dk okX12_ruled 81 rfl) kfX12_56 ds_49 rfl ?_
    refine J_iconst (v := 1) (dk okX12_ruled 82 rfl) (by decide) ?_
    refine J_iald (dk okX12_ruled 83 rfl) ds_60 (by unfold vp_in; decide) ?_
    refine J_isub (dk okX12_ruled 84 rfl) ?_
    refine J_goto (tgt := 154) (dk okX12_ruled 85 rfl) (by decide) ?_
    refine J_sub (ls' := []) [] rfl ?_
    (try simp only [if_pos h3] at K4 ⊢); exact K4
noncomputable def bd_X12_standingOn_5 (p0 : Nat) (μ : Mm) (x2 : Int32) (x3 : Int32) (x4 : Int32) : (Int32 × Int32 × Int32) ⊕ (Int32) := (if (μ.1 49 3) ≤ x4 then .inr x3 else .inl (x2, (x3 ||| (if (v_X12_has (v_X12_here p0 μ) x4) = 0 then 0 else (if (μ.1 p0 (Int32.toNatClampNeg (7 + x4))) = x2 then (1 <<< (x4 &&& 31)) else 0 : Int32) : Int32)), (x4 + 1)))
def sd_X12_standingOn_5 (p0 : Nat)  (μ : Mm) (x2 : Int32) (x3 : Int32) (x4 : Int32) : Prop := (¬ ((μ.1 49 3) ≤ x4) → (¬ ((v_X12_has (v_X12_here p0 μ) x4) = 0) → vp_in (7 + x4) 24))
set_option maxRecDepth 20000 in
set_option maxHeartbeats 4000000 in
theorem lw_X12_standingOn_5 {E : Ex} {G : Gx} {Q : Option Value → Mm → Prop} {p0 : Nat} {x2 : Int32} {x3 : Int32} {x4 : Int32} {μ : Mm} (hp0 : dscL[p0]? = some (.inr (.inl (1, 24)))) (p : whP (fun s : Int32 × Int32 × Int32 => bd_X12_standingOn_5 p0 μ s.1 s.2.1 s.2.2) (fun s : Int32 × Int32 × Int32 => sd_X12_standingOn_5 p0  μ s.1 s.2.1 s.2.2) FU (x2, x3, x4)) (k : ∀ r : Int32, r = whl (fun s : Int32 × Int32 × Int32 => bd_X12_standingOn_5 p0 μ s.1 s.2.1 s.2.2) (fun _ : Int32 × Int32 × Int32 => 0) FU (x2, x3, x4) → J E G 3 mX12_standingOn Q 55 [(3, .int r)] [] μ) : J E G 3 mX12_standingOn Q 5 [(0, rf E 49), (1, rf E p0), (2, .int x2), (3, .int x3), (4, .int x4)] [] μ := by
  refine J_whl (f := (fun s : Int32 × Int32 × Int32 => bd_X12_standingOn_5 p0 μ s.1 s.2.1 s.2.2)) (dd := (fun _ : Int32 × Int32 × Int32 => 0)) (sd := (fun s : Int32 × Int32 × Int32 => sd_X12_standingOn_5 p0  μ s.1 s.2.1 s.2.2)) (P := fun s : Int32 × Int32 × Int32 => J E G 3 mX12_standingOn Q 5 [(0, rf E 49), (1, rf E p0), (2, .int (s.1)), (3, .int (s.2.1)), (4, .int (s.2.2))] [] (μ)) (R := fun r : Int32 => J E G 3 mX12_standingOn Q 55 [(3, .int r)] [] μ) ?_ FU (x2, x3, x4) p (k _ rfl)
  clear p k
  rintro ⟨x2, x3, x4⟩ t k1 k2
  dsimp only [sd_X12_standingOn_5] at t
  have kb : ∀ (y2 : Int32) (y3 : Int32) (y4 : Int32) , bd_X12_standingOn_5 p0 μ x2 x3 x4 = .inl (y2, y3, y4) → J E G 3 mX12_standingOn Q 5 [(0, rf E 49), (1, rf E p0), (2, .int y2), (3, .int y3), (4, .int y4)] [] μ := fun y2 y3 y4  h => k1 (y2, y3, y4) h
  have kx : ∀ (y3 : Int32) , bd_X12_standingOn_5 p0 μ x2 x3 x4 = .inr y3 → J E G 3 mX12_standingOn Q 55 [(3, .int y3)] [] μ := fun y3  h => k2 y3 h
  clear k1 k2
  refine J_iload (dk okX12_standingOn 4 rfl) 4 rfl ?_
  refine J_aload_n (dk okX12_standingOn 5 rfl) 0 rfl rfl ?_
  refine J_getI (dk okX12_standingOn 6 rfl) kfX12_111 ds_49 rfl ?_
  refine J_icmp_ge (tgt := 55) (dk okX12_standingOn 7 rfl) (by decide) (fun h1 => ?_) (fun h1 => ?_)
  · exact J_sub [3] rfl (kx x3 (by unfold bd_X12_standingOn_5; first | (simp only [if_pos h1]; done) | (simp only [if_pos h1]; rfl) | rfl))
  · have t := t h1
    refine J_iload_n (dk okX12_standingOn 8 rfl) 3 rfl rfl ?_
    refine J_aload_n (dk okX12_standingOn 9 rfl) 0 rfl rfl ?_
    refine J_aload_n (dk okX12_standingOn 10 rfl) 1 rfl rfl ?_
    refine J_callVi (As := [rf E p0]) (dk okX12_standingOn 11 rfl) ds_49 rfl vkX12_here lkX12_122 rfl rfl (Nat.le_of_ble_eq_true rfl) (by decide) (con_X12_here hp0 ⟨_, rfl, ?_⟩)
    refine J_iload (dk okX12_standingOn 12 rfl) 4 rfl ?_
    refine J_callSi (As := [.int (v_X12_here p0 μ), .int x4]) (dk okX12_standingOn 13 rfl) skX12_has lkX12_126 rfl rfl (Nat.le_of_ble_eq_true rfl) (by decide) (con_X12_has  ⟨_, rfl, ?_⟩)
    have K5 : J E G 3 mX12_standingOn Q 47 [(0, rf E 49), (1, rf E p0), (2, .int x2), (4, .int x4)] [.int (if (v_X12_has (v_X12_here p0 μ) x4) = 0 then 0 else (if (μ.1 p0 (Int32.toNatClampNeg (7 + x4))) = x2 then (1 <<< (x4 &&& 31)) else 0 : Int32) : Int32), .int x3] μ := by
      refine J_ior (dk okX12_standingOn 27 rfl) ?_
      refine J_istore_n (ls' := [(3, _), (0, _), (1, _), (2, _), (4, _)]) (dk okX12_standingOn 28 rfl) rfl (by decide) rfl ?_
      refine J_iinc (v := (x4 + 1)) (ls' := [(4, _), (3, _), (0, _), (1, _), (2, _)]) (dk okX12_standingOn 29 rfl) 4 rfl rfl (by decide) rfl ?_
      refine J_goto (tgt := 5) (dk okX12_standingOn 30 rfl) (by decide) ?_
      exact J_sub [2, 3, 4, 1, 0] rfl (kb x2 (x3 ||| (if (v_X12_has (v_X12_here p0 μ) x4) = 0 then 0 else (if (μ.1 p0 (Int32.toNatClampNeg (7 + x4))) = x2 then (1 <<< (x4 &&& 31)) else 0 : Int32) : Int32)) (x4 + 1) (by unfold bd_X12_standingOn_5; first | (simp only [if_neg h1]; done) | (simp only [if_neg h1]; rfl) | rfl))
    refine J_if_eq (tgt := 46) (dk okX12_standingOn 14 rfl) (by decide) (fun h2 => ?_) (fun h2 => ?_)
    · refine J_iconst (v := 0) (dk okX12_standingOn 26 rfl) (by decide) ?_
      refine J_sub (ls' := [(0, _), (1, _), (2, _), (4, _)]) [0, 1, 2, 4] rfl ?_
      (try simp only [if_pos h2] at K5 ⊢); exact K5
    · have t := t h2
      refine J_aload_n (dk okX12_standingOn 15 rfl) 1 rfl rfl ?_
      refine J_bipush (v := 7) (dk okX12_standingOn 16 rfl) (by decide) ?_
      refine J_iload (dk okX12_standingOn 17 rfl) 4 rfl ?_
      refine J_iadd (dk okX12_standingOn 18 rfl) ?_
      have s3 := t
      refine J_iald (dk okX12_standingOn 19 rfl) hp0 s3 ?_
      refine J_iload_n (dk okX12_standingOn 20 rfl) 2 rfl rfl ?_
      refine J_icmp_ne (tgt := 46) (dk okX12_standingOn 21 rfl) (by decide) (fun h4 => ?_) (fun h4 => ?_)
      · refine J_iconst (v := 0) (dk okX12_standingOn 26 rfl) (by decide) ?_
        refine J_sub (ls' := [(0, _), (1, _), (2, _), (4, _)]) [0, 1, 2, 4] rfl ?_
        (try simp only [if_neg h2, if_neg h4] at K5 ⊢); exact K5
      · refine J_iconst (v := 1) (dk okX12_standingOn 22 rfl) (by decide) ?_
        refine J_iload (dk okX12_standingOn 23 rfl) 4 rfl ?_
        refine J_ishl (dk okX12_standingOn 24 rfl) ?_
        refine J_goto (tgt := 47) (dk okX12_standingOn 25 rfl) (by decide) ?_
        refine J_sub (ls' := [(0, _), (1, _), (2, _), (4, _)]) [0, 1, 2, 4] rfl ?_
        (try simp only [if_neg h2, if_pos h4] at K5 ⊢); exact K5
/-- VotingFloorModel.standingOn([II)I -/
noncomputable def v_X12_standingOn (p0 : Nat) (p1 : Int32) (μ : Mm) : Int32 := (let r2 : Int32 := whl (fun s : Int32 × Int32 × Int32 => bd_X12_standingOn_5 p0 μ s.1 s.2.1 s.2.2) (fun _ : Int32 × Int32 × Int32 => 0) FU (p1, 0, 0); r2)
def p_X12_standingOn (p0 : Nat) (p1 : Int32)  (μ : Mm) : Prop := whP (fun s : Int32 × Int32 × Int32 => bd_X12_standingOn_5 p0 μ s.1 s.2.1 s.2.2) (fun s : Int32 × Int32 × Int32 => sd_X12_standingOn_5 p0  μ s.1 s.2.1 s.2.2) FU (p1, 0, 0)
set_option maxRecDepth 20000 in
set_option maxHeartbeats 4000000 in
theorem con_X12_standingOn {E : Ex} {Q : Option Value → Mm → Prop} {p0 : Nat} {p1 : Int32} {μ : Mm} (hp0 : dscL[p0]? = some (.inr (.inl (1, 24)))) (t : p_X12_standingOn p0 p1  μ) (k : Q (some (.int (v_X12_standingOn p0 p1 μ))) μ) : Con E 3 mX12_standingOn [rf E 49, rf E p0, .int p1] μ Q := by
  refine Con_J (by decide +kernel) (Nat.le_of_ble_eq_true rfl) (fun G => ?_)
  unfold v_X12_standingOn at k
  unfold p_X12_standingOn at t
  refine J_sub (ls' := [(0, rf E 49), (1, rf E p0), (2, .int p1)]) [0, 1, 2] rfl ?_
  refine J_iconst (v := 0) (dk okX12_standingOn 0 rfl) (by decide) ?_
  refine J_istore_n (ls' := [(3, _), (0, _), (1, _), (2, _)]) (dk okX12_standingOn 1 rfl) rfl (by decide) rfl ?_
  refine J_iconst (v := 0) (dk okX12_standingOn 2 rfl) (by decide) ?_
  refine J_istore (ls' := [(4, _), (3, _), (0, _), (1, _), (2, _)]) (dk okX12_standingOn 3 rfl) (by decide) rfl ?_
  have s1 := t
  refine J_sub (ls' := [(0, _), (1, _), (2, _), (3, _), (4, _)]) [2, 3, 4, 1, 0] rfl ?_
  refine lw_X12_standingOn_5 hp0 s1 (fun r2 er2 => ?_)
  refine J_iload_n (dk okX12_standingOn 31 rfl) 0 rfl rfl ?_
  subst er2
  exact J_iret (dk okX12_standingOn 32 rfl) rfl k
noncomputable def bd_X1_care_4 (b : Nat) (μ : Mm) (x1 : Int32) (x2 : Int32) : (Int32 × Int32) ⊕ (Int32) := (if (μ.1 b 0) ≤ x2 then .inr x1 else .inl ((x1 + (if (v_X1_isOff b x2 μ) = 0 then ((v_X1_load b x2 μ) * (μ.1 (b + 2) (Int32.toNatClampNeg x2))) else 0 : Int32)), (x2 + 1)))
def sd_X1_care_4 (b : Nat)  (μ : Mm) (x1 : Int32) (x2 : Int32) : Prop := (¬ ((μ.1 b 0) ≤ x2) → ((v_X1_isOff b x2 μ) = 0 → (p_X1_load b x2 μ) ∧ vp_in x2 7))
set_option maxRecDepth 20000 in
set_option maxHeartbeats 4000000 in
theorem lw_X1_care_4 {E : Ex} {G : Gx} {Q : Option Value → Mm → Prop} {b : Nat} {x1 : Int32} {x2 : Int32} {μ : Mm} (hb : FloorAt b) (p : whP (fun s : Int32 × Int32 => bd_X1_care_4 b μ s.1 s.2) (fun s : Int32 × Int32 => sd_X1_care_4 b  μ s.1 s.2) FU (x1, x2)) (k : ∀ r : Int32, r = whl (fun s : Int32 × Int32 => bd_X1_care_4 b μ s.1 s.2) (fun _ : Int32 × Int32 => 0) FU (x1, x2) → J E G 3 mX1_care Q 45 [(1, .int r)] [] μ) : J E G 3 mX1_care Q 4 [(0, rf E b), (1, .int x1), (2, .int x2)] [] μ := by
  refine J_whl (f := (fun s : Int32 × Int32 => bd_X1_care_4 b μ s.1 s.2)) (dd := (fun _ : Int32 × Int32 => 0)) (sd := (fun s : Int32 × Int32 => sd_X1_care_4 b  μ s.1 s.2)) (P := fun s : Int32 × Int32 => J E G 3 mX1_care Q 4 [(0, rf E b), (1, .int (s.1)), (2, .int (s.2))] [] (μ)) (R := fun r : Int32 => J E G 3 mX1_care Q 45 [(1, .int r)] [] μ) ?_ FU (x1, x2) p (k _ rfl)
  clear p k
  rintro ⟨x1, x2⟩ t k1 k2
  dsimp only [sd_X1_care_4] at t
  have kb : ∀ (y1 : Int32) (y2 : Int32) , bd_X1_care_4 b μ x1 x2 = .inl (y1, y2) → J E G 3 mX1_care Q 4 [(0, rf E b), (1, .int y1), (2, .int y2)] [] μ := fun y1 y2  h => k1 (y1, y2) h
  have kx : ∀ (y1 : Int32) , bd_X1_care_4 b μ x1 x2 = .inr y1 → J E G 3 mX1_care Q 45 [(1, .int y1)] [] μ := fun y1  h => k2 y1 h
  clear k1 k2
  refine J_iload_n (dk okX1_care 4 rfl) 2 rfl rfl ?_
  refine J_aload_n (dk okX1_care 5 rfl) 0 rfl rfl ?_
  refine J_getI (dk okX1_care 6 rfl) kfX1_9 hb.1 rfl ?_
  refine J_icmp_ge (tgt := 45) (dk okX1_care 7 rfl) (by decide) (fun h1 => ?_) (fun h1 => ?_)
  · exact J_sub [1] rfl (kx x1 (by unfold bd_X1_care_4; first | (simp only [if_pos h1]; done) | (simp only [if_pos h1]; rfl) | rfl))
  · have t := t h1
    refine J_iload_n (dk okX1_care 8 rfl) 1 rfl rfl ?_
    refine J_aload_n (dk okX1_care 9 rfl) 0 rfl rfl ?_
    refine J_iload_n (dk okX1_care 10 rfl) 2 rfl rfl ?_
    refine J_callVi (As := [.int x2]) (dk okX1_care 11 rfl) hb.1 rfl vkX1_isOff lkX1_53 rfl rfl (Nat.le_of_ble_eq_true rfl) (by decide) (con_X1_isOff hb ⟨_, rfl, ?_⟩)
    have K5 : J E G 3 mX1_care Q 37 [(0, rf E b), (2, .int x2)] [.int (if (v_X1_isOff b x2 μ) = 0 then ((v_X1_load b x2 μ) * (μ.1 (b + 2) (Int32.toNatClampNeg x2))) else 0 : Int32), .int x1] μ := by
      refine J_iadd (dk okX1_care 23 rfl) ?_
      refine J_istore_n (ls' := [(1, _), (0, _), (2, _)]) (dk okX1_care 24 rfl) rfl (by decide) rfl ?_
      refine J_iinc (v := (x2 + 1)) (ls' := [(2, _), (1, _), (0, _)]) (dk okX1_care 25 rfl) 2 rfl rfl (by decide) rfl ?_
      refine J_goto (tgt := 4) (dk okX1_care 26 rfl) (by decide) ?_
      exact J_sub [2, 1, 0] rfl (kb (x1 + (if (v_X1_isOff b x2 μ) = 0 then ((v_X1_load b x2 μ) * (μ.1 (b + 2) (Int32.toNatClampNeg x2))) else 0 : Int32)) (x2 + 1) (by unfold bd_X1_care_4; first | (simp only [if_neg h1]; done) | (simp only [if_neg h1]; rfl) | rfl))
    refine J_if_eq (tgt := 25) (dk okX1_care 12 rfl) (by decide) (fun h2 => ?_) (fun h2 => ?_)
    · have t := t h2
      refine J_aload_n (dk okX1_care 15 rfl) 0 rfl rfl ?_
      refine J_iload_n (dk okX1_care 16 rfl) 2 rfl rfl ?_
      obtain ⟨s3, t⟩ := t
      refine J_callVi (As := [.int x2]) (dk okX1_care 17 rfl) hb.1 rfl vkX1_load lkX1_56 rfl rfl (Nat.le_of_ble_eq_true rfl) (by decide) (con_X1_load hb s3 ⟨_, rfl, ?_⟩)
      refine J_aload_n (dk okX1_care 18 rfl) 0 rfl rfl ?_
      refine J_getR (dk okX1_care 19 rfl) kfX1_19 hb.1 rfl ?_
      refine J_iload_n (dk okX1_care 20 rfl) 2 rfl rfl ?_
      have s4 := t
      refine J_iald (dk okX1_care 21 rfl) hb.2.2.1 s4 ?_
      refine J_imul (dk okX1_care 22 rfl) ?_
      refine J_sub (ls' := [(0, _), (2, _)]) [0, 2] rfl ?_
      (try simp only [if_pos h2] at K5 ⊢); exact K5
    · refine J_iconst (v := 0) (dk okX1_care 13 rfl) (by decide) ?_
      refine J_goto (tgt := 37) (dk okX1_care 14 rfl) (by decide) ?_
      refine J_sub (ls' := [(0, _), (2, _)]) [0, 2] rfl ?_
      (try simp only [if_neg h2] at K5 ⊢); exact K5
/-- VotingFloor$Floor.care()I -/
noncomputable def v_X1_care (b : Nat) (μ : Mm) : Int32 := (let r2 : Int32 := whl (fun s : Int32 × Int32 => bd_X1_care_4 b μ s.1 s.2) (fun _ : Int32 × Int32 => 0) FU (0, 0); r2)
def p_X1_care (b : Nat)  (μ : Mm) : Prop := whP (fun s : Int32 × Int32 => bd_X1_care_4 b μ s.1 s.2) (fun s : Int32 × Int32 => sd_X1_care_4 b  μ s.1 s.2) FU (0, 0)
set_option maxRecDepth 20000 in
set_option maxHeartbeats 4000000 in
theorem con_X1_care {E : Ex} {Q : Option Value → Mm → Prop} {b : Nat} {μ : Mm} (hb : FloorAt b) (t : p_X1_care b  μ) (k : Q (some (.int (v_X1_care b μ))) μ) : Con E 3 mX1_care [rf E b] μ Q := by
  refine Con_J (by decide +kernel) (Nat.le_of_ble_eq_true rfl) (fun G => ?_)
  unfold v_X1_care at k
  unfold p_X1_care at t
  refine J_sub (ls' := [(0, rf E b)]) [0] rfl ?_
  refine J_iconst (v := 0) (dk okX1_care 0 rfl) (by decide) ?_
  refine J_istore_n (ls' := [(1, _), (0, _)]) (dk okX1_care 1 rfl) rfl (by decide) rfl ?_
  refine J_iconst (v := 0) (dk okX1_care 2 rfl) (by decide) ?_
  refine J_istore_n (ls' := [(2, _), (1, _), (0, _)]) (dk okX1_care 3 rfl) rfl (by decide) rfl ?_
  have s1 := t
  refine J_sub (ls' := [(0, _), (1, _), (2, _)]) [2, 1, 0] rfl ?_
  refine lw_X1_care_4 hb s1 (fun r2 er2 => ?_)
  refine J_iload_n (dk okX1_care 27 rfl) 0 rfl rfl ?_
  subst er2
  exact J_iret (dk okX1_care 28 rfl) rfl k
noncomputable def bd_X1_momentOnSide_4 (b : Nat) (μ : Mm) (x1 : Int32) (x2 : Int32) (x3 : Int32) : (Int32 × Int32 × Int32) ⊕ (Int32) := (if (μ.1 b 0) ≤ x3 then .inr x2 else .inl (x1, (if (v_X1_isOff b x3 μ) = 0 then (if ((μ.1 (b + 3) (Int32.toNatClampNeg x3)) * x1) ≤ 0 then x2 else (x2 + (((v_X1_load b x3 μ) * (μ.1 (b + 3) (Int32.toNatClampNeg x3))) * x1)) : Int32) else x2 : Int32), (x3 + 1)))
def sd_X1_momentOnSide_4 (b : Nat)  (μ : Mm) (x1 : Int32) (x2 : Int32) (x3 : Int32) : Prop := (¬ ((μ.1 b 0) ≤ x3) → ((v_X1_isOff b x3 μ) = 0 → (vp_in x3 7) ∧ (¬ (((μ.1 (b + 3) (Int32.toNatClampNeg x3)) * x1) ≤ 0) → (p_X1_load b x3 μ) ∧ vp_in x3 7)))
set_option maxRecDepth 20000 in
set_option maxHeartbeats 4000000 in
theorem lw_X1_momentOnSide_4 {E : Ex} {G : Gx} {Q : Option Value → Mm → Prop} {b : Nat} {x1 : Int32} {x2 : Int32} {x3 : Int32} {μ : Mm} (hb : FloorAt b) (p : whP (fun s : Int32 × Int32 × Int32 => bd_X1_momentOnSide_4 b μ s.1 s.2.1 s.2.2) (fun s : Int32 × Int32 × Int32 => sd_X1_momentOnSide_4 b  μ s.1 s.2.1 s.2.2) FU (x1, x2, x3)) (k : ∀ r : Int32, r = whl (fun s : Int32 × Int32 × Int32 => bd_X1_momentOnSide_4 b μ s.1 s.2.1 s.2.2) (fun _ : Int32 × Int32 × Int32 => 0) FU (x1, x2, x3) → J E G 3 mX1_momentOnSide Q 54 [(2, .int r)] [] μ) : J E G 3 mX1_momentOnSide Q 4 [(0, rf E b), (1, .int x1), (2, .int x2), (3, .int x3)] [] μ := by
  refine J_whl (f := (fun s : Int32 × Int32 × Int32 => bd_X1_momentOnSide_4 b μ s.1 s.2.1 s.2.2)) (dd := (fun _ : Int32 × Int32 × Int32 => 0)) (sd := (fun s : Int32 × Int32 × Int32 => sd_X1_momentOnSide_4 b  μ s.1 s.2.1 s.2.2)) (P := fun s : Int32 × Int32 × Int32 => J E G 3 mX1_momentOnSide Q 4 [(0, rf E b), (1, .int (s.1)), (2, .int (s.2.1)), (3, .int (s.2.2))] [] (μ)) (R := fun r : Int32 => J E G 3 mX1_momentOnSide Q 54 [(2, .int r)] [] μ) ?_ FU (x1, x2, x3) p (k _ rfl)
  clear p k
  rintro ⟨x1, x2, x3⟩ t k1 k2
  dsimp only [sd_X1_momentOnSide_4] at t
  have kb : ∀ (y1 : Int32) (y2 : Int32) (y3 : Int32) , bd_X1_momentOnSide_4 b μ x1 x2 x3 = .inl (y1, y2, y3) → J E G 3 mX1_momentOnSide Q 4 [(0, rf E b), (1, .int y1), (2, .int y2), (3, .int y3)] [] μ := fun y1 y2 y3  h => k1 (y1, y2, y3) h
  have kx : ∀ (y2 : Int32) , bd_X1_momentOnSide_4 b μ x1 x2 x3 = .inr y2 → J E G 3 mX1_momentOnSide Q 54 [(2, .int y2)] [] μ := fun y2  h => k2 y2 h
  clear k1 k2
  refine J_iload_n (dk okX1_momentOnSide 4 rfl) 3 rfl rfl ?_
  refine J_aload_n (dk okX1_momentOnSide 5 rfl) 0 rfl rfl ?_
  refine J_getI (dk okX1_momentOnSide 6 rfl) kfX1_9 hb.1 rfl ?_
  refine J_icmp_ge (tgt := 54) (dk okX1_momentOnSide 7 rfl) (by decide) (fun h1 => ?_) (fun h1 => ?_)
  · exact J_sub [2] rfl (kx x2 (by unfold bd_X1_momentOnSide_4; first | (simp only [if_pos h1]; done) | (simp only [if_pos h1]; rfl) | rfl))
  · have t := t h1
    refine J_aload_n (dk okX1_momentOnSide 8 rfl) 0 rfl rfl ?_
    refine J_iload_n (dk okX1_momentOnSide 9 rfl) 3 rfl rfl ?_
    refine J_callVi (As := [.int x3]) (dk okX1_momentOnSide 10 rfl) hb.1 rfl vkX1_isOff lkX1_53 rfl rfl (Nat.le_of_ble_eq_true rfl) (by decide) (con_X1_isOff hb ⟨_, rfl, ?_⟩)
    have K7 : J E G 3 mX1_momentOnSide Q 48 [(0, rf E b), (1, .int x1), (2, .int (if (v_X1_isOff b x3 μ) = 0 then (if ((μ.1 (b + 3) (Int32.toNatClampNeg x3)) * x1) ≤ 0 then x2 else (x2 + (((v_X1_load b x3 μ) * (μ.1 (b + 3) (Int32.toNatClampNeg x3))) * x1)) : Int32) else x2 : Int32)), (3, .int x3)] [] μ := by
      refine J_iinc (v := (x3 + 1)) (ls' := [(3, _), (0, _), (1, _), (2, _)]) (dk okX1_momentOnSide 32 rfl) 3 rfl rfl (by decide) rfl ?_
      refine J_goto (tgt := 4) (dk okX1_momentOnSide 33 rfl) (by decide) ?_
      exact J_sub [1, 2, 3, 0] rfl (kb x1 (if (v_X1_isOff b x3 μ) = 0 then (if ((μ.1 (b + 3) (Int32.toNatClampNeg x3)) * x1) ≤ 0 then x2 else (x2 + (((v_X1_load b x3 μ) * (μ.1 (b + 3) (Int32.toNatClampNeg x3))) * x1)) : Int32) else x2 : Int32) (x3 + 1) (by unfold bd_X1_momentOnSide_4; first | (simp only [if_neg h1]; done) | (simp only [if_neg h1]; rfl) | rfl))
    refine J_if_ne (tgt := 48) (dk okX1_momentOnSide 11 rfl) (by decide) (fun h2 => ?_) (fun h2 => ?_)
    · refine J_sub (ls' := [(0, _), (1, _), (2, _), (3, _)]) [0, 1, 2, 3] rfl ?_
      (try simp only [if_neg h2] at K7 ⊢); exact K7
    · have t := t h2
      refine J_aload_n (dk okX1_momentOnSide 12 rfl) 0 rfl rfl ?_
      refine J_getR (dk okX1_momentOnSide 13 rfl) kfX1_22 hb.1 rfl ?_
      refine J_iload_n (dk okX1_momentOnSide 14 rfl) 3 rfl rfl ?_
      obtain ⟨s3, t⟩ := t
      refine J_iald (dk okX1_momentOnSide 15 rfl) hb.2.2.2.1 s3 ?_
      refine J_iload_n (dk okX1_momentOnSide 16 rfl) 1 rfl rfl ?_
      refine J_imul (dk okX1_momentOnSide 17 rfl) ?_
      refine J_if_le (tgt := 48) (dk okX1_momentOnSide 18 rfl) (by decide) (fun h4 => ?_) (fun h4 => ?_)
      · refine J_sub (ls' := [(0, _), (1, _), (2, _), (3, _)]) [0, 1, 2, 3] rfl ?_
        (try simp only [if_pos h2, if_pos h4] at K7 ⊢); exact K7
      · have t := t h4
        refine J_iload_n (dk okX1_momentOnSide 19 rfl) 2 rfl rfl ?_
        refine J_aload_n (dk okX1_momentOnSide 20 rfl) 0 rfl rfl ?_
        refine J_iload_n (dk okX1_momentOnSide 21 rfl) 3 rfl rfl ?_
        obtain ⟨s5, t⟩ := t
        refine J_callVi (As := [.int x3]) (dk okX1_momentOnSide 22 rfl) hb.1 rfl vkX1_load lkX1_56 rfl rfl (Nat.le_of_ble_eq_true rfl) (by decide) (con_X1_load hb s5 ⟨_, rfl, ?_⟩)
        refine J_aload_n (dk okX1_momentOnSide 23 rfl) 0 rfl rfl ?_
        refine J_getR (dk okX1_momentOnSide 24 rfl) kfX1_22 hb.1 rfl ?_
        refine J_iload_n (dk okX1_momentOnSide 25 rfl) 3 rfl rfl ?_
        have s6 := t
        refine J_iald (dk okX1_momentOnSide 26 rfl) hb.2.2.2.1 s6 ?_
        refine J_imul (dk okX1_momentOnSide 27 rfl) ?_
        refine J_iload_n (dk okX1_momentOnSide 28 rfl) 1 rfl rfl ?_
        refine J_imul (dk okX1_momentOnSide 29 rfl) ?_
        refine J_iadd (dk okX1_momentOnSide 30 rfl) ?_
        refine J_istore_n (ls' := [(2, _), (0, _), (1, _), (3, _)]) (dk okX1_momentOnSide 31 rfl) rfl (by decide) rfl ?_
        refine J_sub (ls' := [(0, _), (1, _), (2, _), (3, _)]) [1, 2, 0, 3] rfl ?_
        (try simp only [if_pos h2, if_neg h4] at K7 ⊢); exact K7
/-- VotingFloor$Floor.momentOnSide(I)I -/
noncomputable def v_X1_momentOnSide (b : Nat) (p0 : Int32) (μ : Mm) : Int32 := (let r2 : Int32 := whl (fun s : Int32 × Int32 × Int32 => bd_X1_momentOnSide_4 b μ s.1 s.2.1 s.2.2) (fun _ : Int32 × Int32 × Int32 => 0) FU (p0, 0, 0); r2)
def p_X1_momentOnSide (b : Nat) (p0 : Int32)  (μ : Mm) : Prop := whP (fun s : Int32 × Int32 × Int32 => bd_X1_momentOnSide_4 b μ s.1 s.2.1 s.2.2) (fun s : Int32 × Int32 × Int32 => sd_X1_momentOnSide_4 b  μ s.1 s.2.1 s.2.2) FU (p0, 0, 0)
set_option maxRecDepth 20000 in
set_option maxHeartbeats 4000000 in
theorem con_X1_momentOnSide {E : Ex} {Q : Option Value → Mm → Prop} {b : Nat} {p0 : Int32} {μ : Mm} (hb : FloorAt b) (t : p_X1_momentOnSide b p0  μ) (k : Q (some (.int (v_X1_momentOnSide b p0 μ))) μ) : Con E 3 mX1_momentOnSide [rf E b, .int p0] μ Q := by
  refine Con_J (by decide +kernel) (Nat.le_of_ble_eq_true rfl) (fun G => ?_)
  unfold v_X1_momentOnSide at k
  unfold p_X1_momentOnSide at t
  refine J_sub (ls' := [(0, rf E b), (1, .int p0)]) [0, 1] rfl ?_
  refine J_iconst (v := 0) (dk okX1_momentOnSide 0 rfl) (by decide) ?_
  refine J_istore_n (ls' := [(2, _), (0, _), (1, _)]) (dk okX1_momentOnSide 1 rfl) rfl (by decide) rfl ?_
  refine J_iconst (v := 0) (dk okX1_momentOnSide 2 rfl) (by decide) ?_
  refine J_istore_n (ls' := [(3, _), (2, _), (0, _), (1, _)]) (dk okX1_momentOnSide 3 rfl) rfl (by decide) rfl ?_
  have s1 := t
  refine J_sub (ls' := [(0, _), (1, _), (2, _), (3, _)]) [2, 3, 1, 0] rfl ?_
  refine lw_X1_momentOnSide_4 hb s1 (fun r2 er2 => ?_)
  refine J_iload_n (dk okX1_momentOnSide 34 rfl) 0 rfl rfl ?_
  subst er2
  exact J_iret (dk okX1_momentOnSide 35 rfl) rfl k
/-- VotingFloor$Floor.wayOf(ILVotingFloor$Rule;I)I -/
noncomputable def v_X1_wayOf (b : Nat) (p0 : Int32) (p1 : Nat) (p2 : Int32) (μ : Mm) : Int32 := (if p0 < 0 then 0 else (if (μ.1 b 0) ≤ p0 then 0 else (if (((μ.1 b 5) >>> (p0 &&& 31)) &&& 1) = 0 then (let μ5 : Mm := (upI μ (b + 6) (Int32.toNatClampNeg 0) (μ.1 (b + 2) (Int32.toNatClampNeg p0))); (let μ7 : Mm := (upI μ5 (b + 6) (Int32.toNatClampNeg 1) (μ5.1 (b + 3) (Int32.toNatClampNeg p0))); (let μ10 : Mm := (upI μ7 (b + 6) (Int32.toNatClampNeg 2) ((μ7.1 (b + 1) (Int32.toNatClampNeg p0)) + (μ7.1 (b + 4) (Int32.toNatClampNeg p0)))); (let μ11 : Mm := (upI μ10 (b + 6) (Int32.toNatClampNeg 3) p2); (let μ16 : Mm := (upI μ11 (b + 6) (Int32.toNatClampNeg 4) (if (μ11.1 p1 2) = 0 then 0 else ((v_J6_bitCount_0f7a4 (v_X1_standingOn b (μ11.1 (b + 3) (Int32.toNatClampNeg p0)) μ11)) - 1) : Int32)); (let μ17 : Mm := (upI μ16 (b + 6) (Int32.toNatClampNeg 5) p0); (let μ18 : Mm := (upI μ17 (b + 6) (Int32.toNatClampNeg 6) ((μ17.1 b 6) - (μ17.1 b 6) / 7 * 7)); (let μ20 : Mm := (e_X5_value p1 (b + 6) μ18); (if (if 0 ≤ ((μ20.1 (b + 3) (Int32.toNatClampNeg p0)) + (v_X11_direction (v_X5_value p1 (b + 6) μ18))) then ((μ20.1 (b + 3) (Int32.toNatClampNeg p0)) + (v_X11_direction (v_X5_value p1 (b + 6) μ18))) else 0 - ((μ20.1 (b + 3) (Int32.toNatClampNeg p0)) + (v_X11_direction (v_X5_value p1 (b + 6) μ18)))) ≤ 9 then (v_X11_direction (v_X5_value p1 (b + 6) μ18)) else 0 : Int32))))))))) else 0)))
noncomputable def e_X1_wayOf (b : Nat) (p0 : Int32) (p1 : Nat) (p2 : Int32) (μ : Mm) : Mm := (if p0 < 0 then μ else (if (μ.1 b 0) ≤ p0 then μ else (if (((μ.1 b 5) >>> (p0 &&& 31)) &&& 1) = 0 then (let μ5 : Mm := (upI μ (b + 6) (Int32.toNatClampNeg 0) (μ.1 (b + 2) (Int32.toNatClampNeg p0))); (let μ7 : Mm := (upI μ5 (b + 6) (Int32.toNatClampNeg 1) (μ5.1 (b + 3) (Int32.toNatClampNeg p0))); (let μ10 : Mm := (upI μ7 (b + 6) (Int32.toNatClampNeg 2) ((μ7.1 (b + 1) (Int32.toNatClampNeg p0)) + (μ7.1 (b + 4) (Int32.toNatClampNeg p0)))); (let μ11 : Mm := (upI μ10 (b + 6) (Int32.toNatClampNeg 3) p2); (let μ16 : Mm := (upI μ11 (b + 6) (Int32.toNatClampNeg 4) (if (μ11.1 p1 2) = 0 then 0 else ((v_J6_bitCount_0f7a4 (v_X1_standingOn b (μ11.1 (b + 3) (Int32.toNatClampNeg p0)) μ11)) - 1) : Int32)); (let μ17 : Mm := (upI μ16 (b + 6) (Int32.toNatClampNeg 5) p0); (let μ18 : Mm := (upI μ17 (b + 6) (Int32.toNatClampNeg 6) ((μ17.1 b 6) - (μ17.1 b 6) / 7 * 7)); (let μ20 : Mm := (e_X5_value p1 (b + 6) μ18); μ20)))))))) else μ)))
def p_X1_wayOf (b : Nat) (p0 : Int32) (p1 : Nat) (p2 : Int32)  (μ : Mm) : Prop := (¬ (p0 < 0) → (¬ ((μ.1 b 0) ≤ p0) → ((((μ.1 b 5) >>> (p0 &&& 31)) &&& 1) = 0 → (vp_in p0 7) ∧ (∀ μ5 : Mm, μ5 = (upI μ (b + 6) (Int32.toNatClampNeg 0) (μ.1 (b + 2) (Int32.toNatClampNeg p0))) → (vp_in p0 7) ∧ (∀ μ7 : Mm, μ7 = (upI μ5 (b + 6) (Int32.toNatClampNeg 1) (μ5.1 (b + 3) (Int32.toNatClampNeg p0))) → (vp_in p0 7) ∧ (vp_in p0 7) ∧ (∀ μ10 : Mm, μ10 = (upI μ7 (b + 6) (Int32.toNatClampNeg 2) ((μ7.1 (b + 1) (Int32.toNatClampNeg p0)) + (μ7.1 (b + 4) (Int32.toNatClampNeg p0)))) → (∀ μ11 : Mm, μ11 = (upI μ10 (b + 6) (Int32.toNatClampNeg 3) p2) → ((¬ ((μ11.1 p1 2) = 0) → (vp_in p0 7) ∧ p_X1_standingOn b (μ11.1 (b + 3) (Int32.toNatClampNeg p0)) μ11)) ∧ (∀ μ16 : Mm, μ16 = (upI μ11 (b + 6) (Int32.toNatClampNeg 4) (if (μ11.1 p1 2) = 0 then 0 else ((v_J6_bitCount_0f7a4 (v_X1_standingOn b (μ11.1 (b + 3) (Int32.toNatClampNeg p0)) μ11)) - 1) : Int32)) → (∀ μ17 : Mm, μ17 = (upI μ16 (b + 6) (Int32.toNatClampNeg 5) p0) → (∀ μ18 : Mm, μ18 = (upI μ17 (b + 6) (Int32.toNatClampNeg 6) ((μ17.1 b 6) - (μ17.1 b 6) / 7 * 7)) → (p_X5_value p1 (b + 6) μ18) ∧ (∀ μ20 : Mm, μ20 = (e_X5_value p1 (b + 6) μ18) → vp_in p0 7)))))))))))
set_option maxRecDepth 20000 in
set_option maxHeartbeats 4000000 in
theorem con_X1_wayOf {E : Ex} {Q : Option Value → Mm → Prop} {b : Nat} {p0 : Int32} {p1 : Nat} {p2 : Int32} {μ : Mm} (hb : FloorAt b) (hp1 : RuleAt p1) (t : p_X1_wayOf b p0 p1 p2  μ) (k : Q (some (.int (v_X1_wayOf b p0 p1 p2 μ))) (e_X1_wayOf b p0 p1 p2 μ)) : Con E 3 mX1_wayOf [rf E b, .int p0, rf E p1, .int p2] μ Q := by
  refine Con_J (by decide +kernel) (Nat.le_of_ble_eq_true rfl) (fun G => ?_)
  unfold v_X1_wayOf e_X1_wayOf at k
  unfold p_X1_wayOf at t
  refine J_sub (ls' := [(0, rf E b), (1, .int p0), (2, rf E p1), (3, .int p2)]) [0, 1, 2, 3] rfl ?_
  refine J_iload_n (dk okX1_wayOf 0 rfl) 1 rfl rfl ?_
  refine J_if_lt (tgt := 23) (dk okX1_wayOf 1 rfl) (by decide) (fun h1 => ?_) (fun h1 => ?_)
  · refine J_iconst (v := 0) (dk okX1_wayOf 13 rfl) (by decide) ?_
    (try simp only [if_pos h1] at k ⊢)
    exact J_iret (dk okX1_wayOf 14 rfl) rfl k
  · have t := t h1
    refine J_iload_n (dk okX1_wayOf 2 rfl) 1 rfl rfl ?_
    refine J_aload_n (dk okX1_wayOf 3 rfl) 0 rfl rfl ?_
    refine J_getI (dk okX1_wayOf 4 rfl) kfX1_9 hb.1 rfl ?_
    refine J_icmp_ge (tgt := 23) (dk okX1_wayOf 5 rfl) (by decide) (fun h2 => ?_) (fun h2 => ?_)
    · refine J_iconst (v := 0) (dk okX1_wayOf 13 rfl) (by decide) ?_
      (try simp only [if_neg h1, if_pos h2] at k ⊢)
      exact J_iret (dk okX1_wayOf 14 rfl) rfl k
    · have t := t h2
      refine J_aload_n (dk okX1_wayOf 6 rfl) 0 rfl rfl ?_
      refine J_getI (dk okX1_wayOf 7 rfl) kfX1_28 hb.1 rfl ?_
      refine J_iload_n (dk okX1_wayOf 8 rfl) 1 rfl rfl ?_
      refine J_ishr (dk okX1_wayOf 9 rfl) ?_
      refine J_iconst (v := 1) (dk okX1_wayOf 10 rfl) (by decide) ?_
      refine J_iand (dk okX1_wayOf 11 rfl) ?_
      refine J_if_eq (tgt := 25) (dk okX1_wayOf 12 rfl) (by decide) (fun h3 => ?_) (fun h3 => ?_)
      · have t := t h3
        refine J_aload_n (dk okX1_wayOf 15 rfl) 0 rfl rfl ?_
        refine J_getR (dk okX1_wayOf 16 rfl) kfX1_42 hb.1 rfl ?_
        refine J_iconst (v := 0) (dk okX1_wayOf 17 rfl) (by decide) ?_
        refine J_aload_n (dk okX1_wayOf 18 rfl) 0 rfl rfl ?_
        refine J_getR (dk okX1_wayOf 19 rfl) kfX1_19 hb.1 rfl ?_
        refine J_iload_n (dk okX1_wayOf 20 rfl) 1 rfl rfl ?_
        obtain ⟨s4, t⟩ := t
        refine J_iald (dk okX1_wayOf 21 rfl) hb.2.2.1 s4 ?_
        refine J_iast (dk okX1_wayOf 22 rfl) hb.2.2.2.2.2.2 (by unfold vp_in; decide) ?_
        refine J_nm (fun μ5 eμ5 => ?_)
        have t := t μ5 eμ5
        refine J_aload_n (dk okX1_wayOf 23 rfl) 0 rfl rfl ?_
        refine J_getR (dk okX1_wayOf 24 rfl) kfX1_42 hb.1 rfl ?_
        refine J_iconst (v := 1) (dk okX1_wayOf 25 rfl) (by decide) ?_
        refine J_aload_n (dk okX1_wayOf 26 rfl) 0 rfl rfl ?_
        refine J_getR (dk okX1_wayOf 27 rfl) kfX1_22 hb.1 rfl ?_
        refine J_iload_n (dk okX1_wayOf 28 rfl) 1 rfl rfl ?_
        obtain ⟨s6, t⟩ := t
        refine J_iald (dk okX1_wayOf 29 rfl) hb.2.2.2.1 s6 ?_
        refine J_iast (dk okX1_wayOf 30 rfl) hb.2.2.2.2.2.2 (by unfold vp_in; decide) ?_
        refine J_nm (fun μ7 eμ7 => ?_)
        have t := t μ7 eμ7
        refine J_aload_n (dk okX1_wayOf 31 rfl) 0 rfl rfl ?_
        refine J_getR (dk okX1_wayOf 32 rfl) kfX1_42 hb.1 rfl ?_
        refine J_iconst (v := 2) (dk okX1_wayOf 33 rfl) (by decide) ?_
        refine J_aload_n (dk okX1_wayOf 34 rfl) 0 rfl rfl ?_
        refine J_getR (dk okX1_wayOf 35 rfl) kfX1_15 hb.1 rfl ?_
        refine J_iload_n (dk okX1_wayOf 36 rfl) 1 rfl rfl ?_
        obtain ⟨s8, t⟩ := t
        refine J_iald (dk okX1_wayOf 37 rfl) hb.2.1 s8 ?_
        refine J_aload_n (dk okX1_wayOf 38 rfl) 0 rfl rfl ?_
        refine J_getR (dk okX1_wayOf 39 rfl) kfX1_25 hb.1 rfl ?_
        refine J_iload_n (dk okX1_wayOf 40 rfl) 1 rfl rfl ?_
        obtain ⟨s9, t⟩ := t
        refine J_iald (dk okX1_wayOf 41 rfl) hb.2.2.2.2.1 s9 ?_
        refine J_iadd (dk okX1_wayOf 42 rfl) ?_
        refine J_iast (dk okX1_wayOf 43 rfl) hb.2.2.2.2.2.2 (by unfold vp_in; decide) ?_
        refine J_nm (fun μ10 eμ10 => ?_)
        have t := t μ10 eμ10
        refine J_aload_n (dk okX1_wayOf 44 rfl) 0 rfl rfl ?_
        refine J_getR (dk okX1_wayOf 45 rfl) kfX1_42 hb.1 rfl ?_
        refine J_iconst (v := 3) (dk okX1_wayOf 46 rfl) (by decide) ?_
        refine J_iload_n (dk okX1_wayOf 47 rfl) 3 rfl rfl ?_
        refine J_iast (dk okX1_wayOf 48 rfl) hb.2.2.2.2.2.2 (by unfold vp_in; decide) ?_
        refine J_nm (fun μ11 eμ11 => ?_)
        have t := t μ11 eμ11
        refine J_aload_n (dk okX1_wayOf 49 rfl) 0 rfl rfl ?_
        refine J_getR (dk okX1_wayOf 50 rfl) kfX1_42 hb.1 rfl ?_
        refine J_iconst (v := 4) (dk okX1_wayOf 51 rfl) (by decide) ?_
        refine J_aload_n (dk okX1_wayOf 52 rfl) 2 rfl rfl ?_
        refine J_getI (dk okX1_wayOf 53 rfl) kfX1_88 hp1.1 rfl ?_
        obtain ⟨t9, t⟩ := t
        have K15 : J E G 3 mX1_wayOf Q 106 [(0, rf E b), (1, .int p0), (2, rf E p1)] [.int (if (μ11.1 p1 2) = 0 then 0 else ((v_J6_bitCount_0f7a4 (v_X1_standingOn b (μ11.1 (b + 3) (Int32.toNatClampNeg p0)) μ11)) - 1) : Int32), .int 4, rf E (b + 6)] μ11 := by
          refine J_iast (dk okX1_wayOf 66 rfl) hb.2.2.2.2.2.2 (by unfold vp_in; decide) ?_
          refine J_nm (fun μ16 eμ16 => ?_)
          have t := t μ16 eμ16
          refine J_aload_n (dk okX1_wayOf 67 rfl) 0 rfl rfl ?_
          refine J_getR (dk okX1_wayOf 68 rfl) kfX1_42 hb.1 rfl ?_
          refine J_iconst (v := 5) (dk okX1_wayOf 69 rfl) (by decide) ?_
          refine J_iload_n (dk okX1_wayOf 70 rfl) 1 rfl rfl ?_
          refine J_iast (dk okX1_wayOf 71 rfl) hb.2.2.2.2.2.2 (by unfold vp_in; decide) ?_
          refine J_nm (fun μ17 eμ17 => ?_)
          have t := t μ17 eμ17
          refine J_aload_n (dk okX1_wayOf 72 rfl) 0 rfl rfl ?_
          refine J_getR (dk okX1_wayOf 73 rfl) kfX1_42 hb.1 rfl ?_
          refine J_bipush (v := 6) (dk okX1_wayOf 74 rfl) (by decide) ?_
          refine J_aload_n (dk okX1_wayOf 75 rfl) 0 rfl rfl ?_
          refine J_getI (dk okX1_wayOf 76 rfl) kfX1_31 hb.1 rfl ?_
          refine J_bipush (v := 7) (dk okX1_wayOf 77 rfl) (by decide) ?_
          refine J_irem (dk okX1_wayOf 78 rfl) (by decide) ?_
          refine J_iast (dk okX1_wayOf 79 rfl) hb.2.2.2.2.2.2 (by unfold vp_in; decide) ?_
          refine J_nm (fun μ18 eμ18 => ?_)
          have t := t μ18 eμ18
          refine J_aload_n (dk okX1_wayOf 80 rfl) 2 rfl rfl ?_
          refine J_aload_n (dk okX1_wayOf 81 rfl) 0 rfl rfl ?_
          refine J_getR (dk okX1_wayOf 82 rfl) kfX1_42 hb.1 rfl ?_
          obtain ⟨s19, t⟩ := t
          refine J_callVi (As := [rf E (b + 6)]) (dk okX1_wayOf 83 rfl) hp1.1 rfl vkX5_value lkX1_95 rfl rfl (Nat.le_of_ble_eq_true rfl) (by decide) (con_X5_value hp1 hb.2.2.2.2.2.2 s19 ⟨_, rfl, ?_⟩)
          refine J_nm (fun μ20 eμ20 => ?_)
          have t := t μ20 eμ20
          refine J_callSNi (As := [.int (v_X5_value p1 (b + 6) μ18)]) (dk okX1_wayOf 84 rfl) skX11_direction lkX1_99 rfl rfl (Nat.le_of_ble_eq_true rfl) (by decide) (con_X11_direction  ⟨_, rfl, ?_⟩)
          refine J_istore (ls' := [(4, _), (0, _), (1, _), (2, _)]) (dk okX1_wayOf 85 rfl) (by decide) rfl ?_
          refine J_aload_n (dk okX1_wayOf 86 rfl) 1 rfl rfl ?_
          refine J_getR (dk okX1_wayOf 87 rfl) kfX1_22 hb.1 rfl ?_
          refine J_iload_n (dk okX1_wayOf 88 rfl) 2 rfl rfl ?_
          have s21 := t
          refine J_iald (dk okX1_wayOf 89 rfl) hb.2.2.2.1 s21 ?_
          refine J_iload (dk okX1_wayOf 90 rfl) 0 rfl ?_
          refine J_iadd (dk okX1_wayOf 91 rfl) ?_
          refine J_mabs (dk okX1_wayOf 92 rfl) lkX1_63 mk_abs_s mk_Math mk_abs_c (by decide) (Nat.le_of_ble_eq_true rfl) ?_
          refine J_bipush (v := 9) (dk okX1_wayOf 93 rfl) (by decide) ?_
          have K23 : J E G 3 mX1_wayOf Q 164 [] [.int (if (if 0 ≤ ((μ20.1 (b + 3) (Int32.toNatClampNeg p0)) + (v_X11_direction (v_X5_value p1 (b + 6) μ18))) then ((μ20.1 (b + 3) (Int32.toNatClampNeg p0)) + (v_X11_direction (v_X5_value p1 (b + 6) μ18))) else 0 - ((μ20.1 (b + 3) (Int32.toNatClampNeg p0)) + (v_X11_direction (v_X5_value p1 (b + 6) μ18)))) ≤ 9 then (v_X11_direction (v_X5_value p1 (b + 6) μ18)) else 0 : Int32)] μ20 := by
            subst eμ20 eμ18 eμ17 eμ16 eμ11 eμ10 eμ7 eμ5
            (try simp only [if_neg h1, if_neg h2, if_pos h3] at k ⊢)
            exact J_iret (dk okX1_wayOf 98 rfl) rfl k
          refine J_icmp_le (tgt := 162) (dk okX1_wayOf 94 rfl) (by decide) (fun h22 => ?_) (fun h22 => ?_)
          · refine J_iload (dk okX1_wayOf 97 rfl) 0 rfl ?_
            refine J_sub (ls' := []) [] rfl ?_
            (try simp only [if_pos h22] at K23 ⊢); exact K23
          · refine J_iconst (v := 0) (dk okX1_wayOf 95 rfl) (by decide) ?_
            refine J_goto (tgt := 164) (dk okX1_wayOf 96 rfl) (by decide) ?_
            refine J_sub (ls' := []) [] rfl ?_
            (try simp only [if_neg h22] at K23 ⊢); exact K23
        have t := t9
        refine J_if_eq (tgt := 105) (dk okX1_wayOf 54 rfl) (by decide) (fun h12 => ?_) (fun h12 => ?_)
        · refine J_iconst (v := 0) (dk okX1_wayOf 65 rfl) (by decide) ?_
          refine J_sub (ls' := [(0, _), (1, _), (2, _)]) [0, 1, 2] rfl ?_
          (try simp only [if_pos h12] at K15 ⊢); exact K15
        · have t := t h12
          refine J_aload_n (dk okX1_wayOf 55 rfl) 0 rfl rfl ?_
          refine J_aload_n (dk okX1_wayOf 56 rfl) 0 rfl rfl ?_
          refine J_getR (dk okX1_wayOf 57 rfl) kfX1_22 hb.1 rfl ?_
          refine J_iload_n (dk okX1_wayOf 58 rfl) 1 rfl rfl ?_
          obtain ⟨s13, t⟩ := t
          refine J_iald (dk okX1_wayOf 59 rfl) hb.2.2.2.1 s13 ?_
          have s14 := t
          refine J_callVi (As := [.int (μ11.1 (b + 3) (Int32.toNatClampNeg p0))]) (dk okX1_wayOf 60 rfl) hb.1 rfl vkX1_standingOn lkX1_92 rfl rfl (Nat.le_of_ble_eq_true rfl) (by decide) (con_X1_standingOn hb s14 ⟨_, rfl, ?_⟩)
          refine J_callSi (As := [.int (v_X1_standingOn b (μ11.1 (b + 3) (Int32.toNatClampNeg p0)) μ11)]) (dk okX1_wayOf 61 rfl) skJ6_bitCount_0f7a4 lkX1_72 rfl rfl (Nat.le_of_ble_eq_true rfl) (by decide) (con_J6_bitCount_0f7a4  ⟨_, rfl, ?_⟩)
          refine J_iconst (v := 1) (dk okX1_wayOf 62 rfl) (by decide) ?_
          refine J_isub (dk okX1_wayOf 63 rfl) ?_
          refine J_goto (tgt := 106) (dk okX1_wayOf 64 rfl) (by decide) ?_
          refine J_sub (ls' := [(0, _), (1, _), (2, _)]) [0, 1, 2] rfl ?_
          (try simp only [if_neg h12] at K15 ⊢); exact K15
      · refine J_iconst (v := 0) (dk okX1_wayOf 13 rfl) (by decide) ?_
        (try simp only [if_neg h1, if_neg h2, if_neg h3] at k ⊢)
        exact J_iret (dk okX1_wayOf 14 rfl) rfl k
/-- VotingFloor$Rule.close()Z -/
noncomputable def v_X5_close (b : Nat) (μ : Mm) : Int32 := (if 1 ≤ (μ.1 b 6) then 1 else 0)
noncomputable def e_X5_close (b : Nat) (μ : Mm) : Mm := (if 1 ≤ (μ.1 b 6) then (let μ3 : Mm := (e_X5_emitWaiting b 1 μ); (let μ5 : Mm := (e_X4_pop (b + 3) μ3); (let μ6 : Mm := (upI μ5 b 6 ((μ5.1 b 6) - 1)); μ6))) else μ)
def p_X5_close (b : Nat)  (μ : Mm) : Prop := (1 ≤ (μ.1 b 6) → (p_X5_emitWaiting b 1 μ) ∧ (∀ μ3 : Mm, μ3 = (e_X5_emitWaiting b 1 μ) → p_X4_pop (b + 3) μ3))
set_option maxRecDepth 20000 in
set_option maxHeartbeats 4000000 in
theorem con_X5_close {E : Ex} {Q : Option Value → Mm → Prop} {b : Nat} {μ : Mm} (hb : RuleAt b) (t : p_X5_close b  μ) (k : Q (some (.int (v_X5_close b μ))) (e_X5_close b μ)) : Con E 3 mX5_close [rf E b] μ Q := by
  refine Con_J (by decide +kernel) (Nat.le_of_ble_eq_true rfl) (fun G => ?_)
  unfold v_X5_close e_X5_close at k
  unfold p_X5_close at t
  refine J_sub (ls' := [(0, rf E b)]) [0] rfl ?_
  refine J_aload_n (dk okX5_close 0 rfl) 0 rfl rfl ?_
  refine J_getI (dk okX5_close 1 rfl) kfX5_36 hb.1 rfl ?_
  refine J_iconst (v := 1) (dk okX5_close 2 rfl) (by decide) ?_
  refine J_icmp_ge (tgt := 10) (dk okX5_close 3 rfl) (by decide) (fun h1 => ?_) (fun h1 => ?_)
  · have t := t h1
    refine J_aload_n (dk okX5_close 6 rfl) 0 rfl rfl ?_
    refine J_iconst (v := 1) (dk okX5_close 7 rfl) (by decide) ?_
    obtain ⟨s2, t⟩ := t
    refine J_callVv (As := [.int 1]) (dk okX5_close 8 rfl) hb.1 rfl vkX5_emitWaiting lkX5_71 rfl rfl (Nat.le_of_ble_eq_true rfl) (by decide) (con_X5_emitWaiting hb s2 ⟨rfl, ?_⟩)
    refine J_nm (fun μ3 eμ3 => ?_)
    have t := t μ3 eμ3
    refine J_aload_n (dk okX5_close 9 rfl) 0 rfl rfl ?_
    refine J_getR (dk okX5_close 10 rfl) kfX5_29 hb.1 rfl ?_
    have s4 := t
    refine J_callVi (As := []) (dk okX5_close 11 rfl) hb.2.2.2.1 rfl vkX4_pop lkX5_113 rfl rfl (Nat.le_of_ble_eq_true rfl) (by decide) (con_X4_pop (RuleAt_pile hb) s4 ⟨_, rfl, ?_⟩)
    refine J_nm (fun μ5 eμ5 => ?_)
    refine J_pop (dk okX5_close 12 rfl) rfl ?_
    refine J_aload_n (dk okX5_close 13 rfl) 0 rfl rfl ?_
    refine J_dup (dk okX5_close 14 rfl) rfl ?_
    refine J_getI (dk okX5_close 15 rfl) kfX5_36 hb.1 rfl ?_
    refine J_iconst (v := 1) (dk okX5_close 16 rfl) (by decide) ?_
    refine J_isub (dk okX5_close 17 rfl) ?_
    refine J_put (dk okX5_close 18 rfl) kpX5_36 hb.1 rfl rfl rfl ?_
    refine J_nm (fun μ6 eμ6 => ?_)
    refine J_iconst (v := 1) (dk okX5_close 19 rfl) (by decide) ?_
    subst eμ6 eμ5 eμ3
    (try simp only [if_pos h1] at k ⊢)
    exact J_zret (dk okX5_close 20 rfl) rfl rfl k
  · refine J_iconst (v := 0) (dk okX5_close 4 rfl) (by decide) ?_
    (try simp only [if_neg h1] at k ⊢)
    exact J_zret (dk okX5_close 5 rfl) rfl rfl k
theorem nb_X5_close (b : Nat) (μ : Mm) : narrow .boolean (.int (v_X5_close b μ)) = .int (v_X5_close b μ) := by
  unfold v_X5_close; (repeat' split) <;> rfl
noncomputable def bd_X6_agree_2 (p1 : Nat) (μ : Mm) (x1 : Int32) (x3 : Int32) : (Int32 × Int32) ⊕ (Int32) := (if (μ.1 38 3) ≤ x3 then .inr 1 else (if (μ.1 40 (Int32.toNatClampNeg x3)) = x1 then (if (v_X1_placeOf p1 (μ.1 39 (Int32.toNatClampNeg x3)) μ) = (μ.1 41 (Int32.toNatClampNeg x3)) then .inl (x1, (x3 + 1)) else .inr 0) else .inl (x1, (x3 + 1))))
def sd_X6_agree_2 (p1 : Nat)  (μ : Mm) (x1 : Int32) (x3 : Int32) : Prop := (¬ ((μ.1 38 3) ≤ x3) → (vp_in x3 10) ∧ ((μ.1 40 (Int32.toNatClampNeg x3)) = x1 → (vp_in x3 10) ∧ (p_X1_placeOf p1 (μ.1 39 (Int32.toNatClampNeg x3)) μ) ∧ vp_in x3 10))
set_option maxRecDepth 20000 in
set_option maxHeartbeats 4000000 in
theorem lw_X6_agree_2 {E : Ex} {G : Gx} {Q : Option Value → Mm → Prop} {p1 : Nat} {x1 : Int32} {x3 : Int32} {μ : Mm} (hp1 : FloorAt p1) (p : whP (fun s : Int32 × Int32 => bd_X6_agree_2 p1 μ s.1 s.2) (fun s : Int32 × Int32 => sd_X6_agree_2 p1  μ s.1 s.2) FU (x1, x3)) (k : Q (some (.int (whl (fun s : Int32 × Int32 => bd_X6_agree_2 p1 μ s.1 s.2) (fun _ : Int32 × Int32 => 0) FU (x1, x3)))) μ) : J E G 3 mX6_agree Q 2 [(0, rf E 38), (1, .int x1), (2, rf E p1), (3, .int x3)] [] μ := by
  refine J_whl (f := (fun s : Int32 × Int32 => bd_X6_agree_2 p1 μ s.1 s.2)) (dd := (fun _ : Int32 × Int32 => 0)) (sd := (fun s : Int32 × Int32 => sd_X6_agree_2 p1  μ s.1 s.2)) (P := fun s : Int32 × Int32 => J E G 3 mX6_agree Q 2 [(0, rf E 38), (1, .int (s.1)), (2, rf E p1), (3, .int (s.2))] [] (μ)) (R := fun r : Int32 => Q (some (.int (r))) μ) ?_ FU (x1, x3) p k
  clear p k
  rintro ⟨x1, x3⟩ t k1 k2
  dsimp only [sd_X6_agree_2] at t
  have kb : ∀ (y1 : Int32) (y3 : Int32) , bd_X6_agree_2 p1 μ x1 x3 = .inl (y1, y3) → J E G 3 mX6_agree Q 2 [(0, rf E 38), (1, .int y1), (2, rf E p1), (3, .int y3)] [] μ := fun y1 y3  h => k1 (y1, y3) h
  have kx : ∀ (y : Int32), bd_X6_agree_2 p1 μ x1 x3 = .inr y → Q (some (.int y)) μ := fun y h => k2 y h
  clear k1 k2
  refine J_iload_n (dk okX6_agree 2 rfl) 3 rfl rfl ?_
  refine J_aload_n (dk okX6_agree 3 rfl) 0 rfl rfl ?_
  refine J_getI (dk okX6_agree 4 rfl) kfX6_19 ds_38 rfl ?_
  refine J_icmp_ge (tgt := 47) (dk okX6_agree 5 rfl) (by decide) (fun h1 => ?_) (fun h1 => ?_)
  · refine J_iconst (v := 1) (dk okX6_agree 27 rfl) (by decide) ?_
    exact J_zret (dk okX6_agree 28 rfl) rfl rfl (kx 1 (by unfold bd_X6_agree_2; first | (simp only [if_pos h1]; done) | (simp only [if_pos h1]; rfl) | rfl))
  · have t := t h1
    refine J_aload_n (dk okX6_agree 6 rfl) 0 rfl rfl ?_
    refine J_getR (dk okX6_agree 7 rfl) kfX6_13 ds_38 rfl ?_
    refine J_iload_n (dk okX6_agree 8 rfl) 3 rfl rfl ?_
    obtain ⟨s2, t⟩ := t
    refine J_iald (dk okX6_agree 9 rfl) ds_40 s2 ?_
    refine J_iload_n (dk okX6_agree 10 rfl) 1 rfl rfl ?_
    refine J_icmp_ne (tgt := 41) (dk okX6_agree 11 rfl) (by decide) (fun h3 => ?_) (fun h3 => ?_)
    · refine J_iinc (v := (x3 + 1)) (ls' := [(3, _), (0, _), (1, _), (2, _)]) (dk okX6_agree 25 rfl) 3 rfl rfl (by decide) rfl ?_
      refine J_goto (tgt := 2) (dk okX6_agree 26 rfl) (by decide) ?_
      exact J_sub [1, 2, 3, 0] rfl (kb x1 (x3 + 1) (by unfold bd_X6_agree_2; first | (simp only [if_neg h1, if_neg h3]; done) | (simp only [if_neg h1, if_neg h3]; rfl) | rfl))
    · have t := t h3
      refine J_aload_n (dk okX6_agree 12 rfl) 2 rfl rfl ?_
      refine J_aload_n (dk okX6_agree 13 rfl) 0 rfl rfl ?_
      refine J_getR (dk okX6_agree 14 rfl) kfX6_9 ds_38 rfl ?_
      refine J_iload_n (dk okX6_agree 15 rfl) 3 rfl rfl ?_
      obtain ⟨s4, t⟩ := t
      refine J_iald (dk okX6_agree 16 rfl) ds_39 s4 ?_
      obtain ⟨s5, t⟩ := t
      refine J_callVi (As := [.int (μ.1 39 (Int32.toNatClampNeg x3))]) (dk okX6_agree 17 rfl) hp1.1 rfl vkX1_placeOf lkX6_29 rfl rfl (Nat.le_of_ble_eq_true rfl) (by decide) (con_X1_placeOf hp1 s5 ⟨_, rfl, ?_⟩)
      refine J_aload_n (dk okX6_agree 18 rfl) 0 rfl rfl ?_
      refine J_getR (dk okX6_agree 19 rfl) kfX6_16 ds_38 rfl ?_
      refine J_iload_n (dk okX6_agree 20 rfl) 3 rfl rfl ?_
      have s6 := t
      refine J_iald (dk okX6_agree 21 rfl) ds_41 s6 ?_
      refine J_icmp_eq (tgt := 41) (dk okX6_agree 22 rfl) (by decide) (fun h7 => ?_) (fun h7 => ?_)
      · refine J_iinc (v := (x3 + 1)) (ls' := [(3, _), (0, _), (1, _), (2, _)]) (dk okX6_agree 25 rfl) 3 rfl rfl (by decide) rfl ?_
        refine J_goto (tgt := 2) (dk okX6_agree 26 rfl) (by decide) ?_
        exact J_sub [1, 2, 3, 0] rfl (kb x1 (x3 + 1) (by unfold bd_X6_agree_2; first | (simp only [if_neg h1, if_pos h3, if_pos h7]; done) | (simp only [if_neg h1, if_pos h3, if_pos h7]; rfl) | rfl))
      · refine J_iconst (v := 0) (dk okX6_agree 23 rfl) (by decide) ?_
        exact J_zret (dk okX6_agree 24 rfl) rfl rfl (kx 0 (by unfold bd_X6_agree_2; first | (simp only [if_neg h1, if_pos h3, if_neg h7]; done) | (simp only [if_neg h1, if_pos h3, if_neg h7]; rfl) | rfl))
/-- VotingFloor$Sightings.agree(ILVotingFloor$Floor;)Z -/
noncomputable def v_X6_agree (p0 : Int32) (p1 : Nat) (μ : Mm) : Int32 := (whl (fun s : Int32 × Int32 => bd_X6_agree_2 p1 μ s.1 s.2) (fun _ : Int32 × Int32 => 0) FU (p0, 0))
def p_X6_agree (p0 : Int32) (p1 : Nat)  (μ : Mm) : Prop := whP (fun s : Int32 × Int32 => bd_X6_agree_2 p1 μ s.1 s.2) (fun s : Int32 × Int32 => sd_X6_agree_2 p1  μ s.1 s.2) FU (p0, 0)
set_option maxRecDepth 20000 in
set_option maxHeartbeats 4000000 in
theorem con_X6_agree {E : Ex} {Q : Option Value → Mm → Prop} {p0 : Int32} {p1 : Nat} {μ : Mm} (hp1 : FloorAt p1) (t : p_X6_agree p0 p1  μ) (k : Q (some (.int (v_X6_agree p0 p1 μ))) μ) : Con E 3 mX6_agree [rf E 38, .int p0, rf E p1] μ Q := by
  refine Con_J (by decide +kernel) (Nat.le_of_ble_eq_true rfl) (fun G => ?_)
  unfold v_X6_agree at k
  unfold p_X6_agree at t
  refine J_sub (ls' := [(0, rf E 38), (1, .int p0), (2, rf E p1)]) [0, 1, 2] rfl ?_
  refine J_iconst (v := 0) (dk okX6_agree 0 rfl) (by decide) ?_
  refine J_istore_n (ls' := [(3, _), (0, _), (1, _), (2, _)]) (dk okX6_agree 1 rfl) rfl (by decide) rfl ?_
  have s1 := t
  refine J_sub (ls' := [(0, _), (1, _), (2, _), (3, _)]) [1, 2, 3, 0] rfl ?_
  exact lw_X6_agree_2 hp1 s1 k
noncomputable def bd_X7_farthestOf_24  (μ : Mm) (x1 : Int32) (x2 : Int32) (x3 : Int32) (x4 : Int32) : (Int32 × Int32 × Int32 × Int32) ⊕ (Int32) := (if x4 ≤ 0 then .inr 0 else (if ((x4 * (μ.1 36 (Int32.toNatClampNeg x1))) + (v_X7_most (x1 + 1) (x2 - x4) μ)) < x3 then .inl (x1, x2, x3, (x4 + (-1))) else .inr x4))
def sd_X7_farthestOf_24   (μ : Mm) (x1 : Int32) (x2 : Int32) (x3 : Int32) (x4 : Int32) : Prop := (¬ (x4 ≤ 0) → (vp_in x1 7) ∧ p_X7_most (x1 + 1) (x2 - x4) μ)
set_option maxRecDepth 20000 in
set_option maxHeartbeats 4000000 in
theorem lw_X7_farthestOf_24 {E : Ex} {G : Gx} {Q : Option Value → Mm → Prop} {x1 : Int32} {x2 : Int32} {x3 : Int32} {x4 : Int32} {μ : Mm}  (p : whP (fun s : Int32 × Int32 × Int32 × Int32 => bd_X7_farthestOf_24  μ s.1 s.2.1 s.2.2.1 s.2.2.2) (fun s : Int32 × Int32 × Int32 × Int32 => sd_X7_farthestOf_24   μ s.1 s.2.1 s.2.2.1 s.2.2.2) FU (x1, x2, x3, x4)) (k : Q (some (.int (whl (fun s : Int32 × Int32 × Int32 × Int32 => bd_X7_farthestOf_24  μ s.1 s.2.1 s.2.2.1 s.2.2.2) (fun _ : Int32 × Int32 × Int32 × Int32 => 0) FU (x1, x2, x3, x4)))) μ) : J E G 3 mX7_farthestOf Q 24 [(0, rf E 35), (1, .int x1), (2, .int x2), (3, .int x3), (4, .int x4)] [] μ := by
  refine J_whl (f := (fun s : Int32 × Int32 × Int32 × Int32 => bd_X7_farthestOf_24  μ s.1 s.2.1 s.2.2.1 s.2.2.2)) (dd := (fun _ : Int32 × Int32 × Int32 × Int32 => 0)) (sd := (fun s : Int32 × Int32 × Int32 × Int32 => sd_X7_farthestOf_24   μ s.1 s.2.1 s.2.2.1 s.2.2.2)) (P := fun s : Int32 × Int32 × Int32 × Int32 => J E G 3 mX7_farthestOf Q 24 [(0, rf E 35), (1, .int (s.1)), (2, .int (s.2.1)), (3, .int (s.2.2.1)), (4, .int (s.2.2.2))] [] (μ)) (R := fun r : Int32 => Q (some (.int (r))) μ) ?_ FU (x1, x2, x3, x4) p k
  clear p k
  rintro ⟨x1, x2, x3, x4⟩ t k1 k2
  dsimp only [sd_X7_farthestOf_24] at t
  have kb : ∀ (y1 : Int32) (y2 : Int32) (y3 : Int32) (y4 : Int32) , bd_X7_farthestOf_24  μ x1 x2 x3 x4 = .inl (y1, y2, y3, y4) → J E G 3 mX7_farthestOf Q 24 [(0, rf E 35), (1, .int y1), (2, .int y2), (3, .int y3), (4, .int y4)] [] μ := fun y1 y2 y3 y4  h => k1 (y1, y2, y3, y4) h
  have kx : ∀ (y : Int32), bd_X7_farthestOf_24  μ x1 x2 x3 x4 = .inr y → Q (some (.int y)) μ := fun y h => k2 y h
  clear k1 k2
  refine J_iload (dk okX7_farthestOf 14 rfl) 4 rfl ?_
  refine J_if_le (tgt := 63) (dk okX7_farthestOf 15 rfl) (by decide) (fun h1 => ?_) (fun h1 => ?_)
  · refine J_iconst (v := 0) (dk okX7_farthestOf 37 rfl) (by decide) ?_
    exact J_iret (dk okX7_farthestOf 38 rfl) rfl (kx 0 (by unfold bd_X7_farthestOf_24; first | (simp only [if_pos h1]; done) | (simp only [if_pos h1]; rfl) | rfl))
  · have t := t h1
    refine J_iload (dk okX7_farthestOf 16 rfl) 4 rfl ?_
    refine J_aload_n (dk okX7_farthestOf 17 rfl) 0 rfl rfl ?_
    refine J_getR (dk okX7_farthestOf 18 rfl) kfX7_9 ds_35 rfl ?_
    refine J_iload_n (dk okX7_farthestOf 19 rfl) 1 rfl rfl ?_
    obtain ⟨s2, t⟩ := t
    refine J_iald (dk okX7_farthestOf 20 rfl) ds_36 s2 ?_
    refine J_imul (dk okX7_farthestOf 21 rfl) ?_
    refine J_aload_n (dk okX7_farthestOf 22 rfl) 0 rfl rfl ?_
    refine J_iload_n (dk okX7_farthestOf 23 rfl) 1 rfl rfl ?_
    refine J_iconst (v := 1) (dk okX7_farthestOf 24 rfl) (by decide) ?_
    refine J_iadd (dk okX7_farthestOf 25 rfl) ?_
    refine J_iload_n (dk okX7_farthestOf 26 rfl) 2 rfl rfl ?_
    refine J_iload (dk okX7_farthestOf 27 rfl) 4 rfl ?_
    refine J_isub (dk okX7_farthestOf 28 rfl) ?_
    have s3 := t
    refine J_callVi (As := [.int (x1 + 1), .int (x2 - x4)]) (dk okX7_farthestOf 29 rfl) ds_35 rfl vkX7_most lkX7_39 rfl rfl (Nat.le_of_ble_eq_true rfl) (by decide) (con_X7_most s3 ⟨_, rfl, ?_⟩)
    refine J_iadd (dk okX7_farthestOf 30 rfl) ?_
    refine J_iload_n (dk okX7_farthestOf 31 rfl) 3 rfl rfl ?_
    refine J_icmp_lt (tgt := 57) (dk okX7_farthestOf 32 rfl) (by decide) (fun h4 => ?_) (fun h4 => ?_)
    · refine J_iinc (v := (x4 + (-1))) (ls' := [(4, _), (0, _), (1, _), (2, _), (3, _)]) (dk okX7_farthestOf 35 rfl) 4 rfl rfl (by decide) rfl ?_
      refine J_goto (tgt := 24) (dk okX7_farthestOf 36 rfl) (by decide) ?_
      exact J_sub [1, 2, 3, 4, 0] rfl (kb x1 x2 x3 (x4 + (-1)) (by unfold bd_X7_farthestOf_24; first | (simp only [if_neg h1, if_pos h4]; done) | (simp only [if_neg h1, if_pos h4]; rfl) | rfl))
    · refine J_iload (dk okX7_farthestOf 33 rfl) 4 rfl ?_
      exact J_iret (dk okX7_farthestOf 34 rfl) rfl (kx x4 (by unfold bd_X7_farthestOf_24; first | (simp only [if_neg h1, if_neg h4]; done) | (simp only [if_neg h1, if_neg h4]; rfl) | rfl))
/-- VotingFloor$Strides.farthestOf(III)I -/
noncomputable def v_X7_farthestOf (p0 : Int32) (p1 : Int32) (p2 : Int32) (μ : Mm) : Int32 := (if p0 < 0 then 0 else (if p0 < 7 then (whl (fun s : Int32 × Int32 × Int32 × Int32 => bd_X7_farthestOf_24  μ s.1 s.2.1 s.2.2.1 s.2.2.2) (fun _ : Int32 × Int32 × Int32 × Int32 => 0) FU (p0, p1, p2, (if (μ.1 37 (Int32.toNatClampNeg p0)) < p1 then (μ.1 37 (Int32.toNatClampNeg p0)) else p1))) else 0))
def p_X7_farthestOf (p0 : Int32) (p1 : Int32) (p2 : Int32)  (μ : Mm) : Prop := (¬ (p0 < 0) → (p0 < 7 → (vp_in p0 7) ∧ whP (fun s : Int32 × Int32 × Int32 × Int32 => bd_X7_farthestOf_24  μ s.1 s.2.1 s.2.2.1 s.2.2.2) (fun s : Int32 × Int32 × Int32 × Int32 => sd_X7_farthestOf_24   μ s.1 s.2.1 s.2.2.1 s.2.2.2) FU (p0, p1, p2, (if (μ.1 37 (Int32.toNatClampNeg p0)) < p1 then (μ.1 37 (Int32.toNatClampNeg p0)) else p1))))
set_option maxRecDepth 20000 in
set_option maxHeartbeats 4000000 in
theorem con_X7_farthestOf {E : Ex} {Q : Option Value → Mm → Prop} {p0 : Int32} {p1 : Int32} {p2 : Int32} {μ : Mm} (t : p_X7_farthestOf p0 p1 p2  μ) (k : Q (some (.int (v_X7_farthestOf p0 p1 p2 μ))) μ) : Con E 3 mX7_farthestOf [rf E 35, .int p0, .int p1, .int p2] μ Q := by
  refine Con_J (by decide +kernel) (Nat.le_of_ble_eq_true rfl) (fun G => ?_)
  unfold v_X7_farthestOf at k
  unfold p_X7_farthestOf at t
  refine J_sub (ls' := [(0, rf E 35), (1, .int p0), (2, .int p1), (3, .int p2)]) [0, 1, 2, 3] rfl ?_
  refine J_iload_n (dk okX7_farthestOf 0 rfl) 1 rfl rfl ?_
  refine J_if_lt (tgt := 10) (dk okX7_farthestOf 1 rfl) (by decide) (fun h1 => ?_) (fun h1 => ?_)
  · refine J_iconst (v := 0) (dk okX7_farthestOf 5 rfl) (by decide) ?_
    (try simp only [if_pos h1] at k ⊢)
    exact J_iret (dk okX7_farthestOf 6 rfl) rfl k
  · have t := t h1
    refine J_iload_n (dk okX7_farthestOf 2 rfl) 1 rfl rfl ?_
    refine J_bipush (v := 7) (dk okX7_farthestOf 3 rfl) (by decide) ?_
    refine J_icmp_lt (tgt := 12) (dk okX7_farthestOf 4 rfl) (by decide) (fun h2 => ?_) (fun h2 => ?_)
    · have t := t h2
      refine J_iload_n (dk okX7_farthestOf 7 rfl) 2 rfl rfl ?_
      refine J_aload_n (dk okX7_farthestOf 8 rfl) 0 rfl rfl ?_
      refine J_getR (dk okX7_farthestOf 9 rfl) kfX7_15 ds_35 rfl ?_
      refine J_iload_n (dk okX7_farthestOf 10 rfl) 1 rfl rfl ?_
      obtain ⟨s3, t⟩ := t
      refine J_iald (dk okX7_farthestOf 11 rfl) ds_37 s3 ?_
      refine J_mmin (dk okX7_farthestOf 12 rfl) lkX7_36 mk_min_s mk_Math mk_min_c (by decide) (Nat.le_of_ble_eq_true rfl) ?_
      refine J_istore (ls' := [(4, _), (0, _), (1, _), (2, _), (3, _)]) (dk okX7_farthestOf 13 rfl) (by decide) rfl ?_
      have s4 := t
      refine J_sub (ls' := [(0, _), (1, _), (2, _), (3, _), (4, _)]) [1, 2, 3, 4, 0] rfl ?_
      (try simp only [if_neg h1, if_pos h2] at k ⊢)
      exact lw_X7_farthestOf_24  s4 k
    · refine J_iconst (v := 0) (dk okX7_farthestOf 5 rfl) (by decide) ?_
      (try simp only [if_neg h1, if_neg h2] at k ⊢)
      exact J_iret (dk okX7_farthestOf 6 rfl) rfl k
noncomputable def bd_X7_fewest_2  (μ : Mm) (x1 : Int32) (x2 : Int32) : (Int32 × Int32) ⊕ (Int32) := (if 126 < x2 then .inr (-2) else (if (v_X7_most 0 x2 μ) < x1 then .inl (x1, (x2 + 1)) else .inr x2))
def sd_X7_fewest_2   (μ : Mm) (x1 : Int32) (x2 : Int32) : Prop := (¬ (126 < x2) → p_X7_most 0 x2 μ)
set_option maxRecDepth 20000 in
set_option maxHeartbeats 4000000 in
theorem lw_X7_fewest_2 {E : Ex} {G : Gx} {Q : Option Value → Mm → Prop} {x1 : Int32} {x2 : Int32} {μ : Mm}  (p : whP (fun s : Int32 × Int32 => bd_X7_fewest_2  μ s.1 s.2) (fun s : Int32 × Int32 => sd_X7_fewest_2   μ s.1 s.2) FU (x1, x2)) (k : Q (some (.int (whl (fun s : Int32 × Int32 => bd_X7_fewest_2  μ s.1 s.2) (fun _ : Int32 × Int32 => 0) FU (x1, x2)))) μ) : J E G 3 mX7_fewest Q 2 [(0, rf E 35), (1, .int x1), (2, .int x2)] [] μ := by
  refine J_whl (f := (fun s : Int32 × Int32 => bd_X7_fewest_2  μ s.1 s.2)) (dd := (fun _ : Int32 × Int32 => 0)) (sd := (fun s : Int32 × Int32 => sd_X7_fewest_2   μ s.1 s.2)) (P := fun s : Int32 × Int32 => J E G 3 mX7_fewest Q 2 [(0, rf E 35), (1, .int (s.1)), (2, .int (s.2))] [] (μ)) (R := fun r : Int32 => Q (some (.int (r))) μ) ?_ FU (x1, x2) p k
  clear p k
  rintro ⟨x1, x2⟩ t k1 k2
  dsimp only [sd_X7_fewest_2] at t
  have kb : ∀ (y1 : Int32) (y2 : Int32) , bd_X7_fewest_2  μ x1 x2 = .inl (y1, y2) → J E G 3 mX7_fewest Q 2 [(0, rf E 35), (1, .int y1), (2, .int y2)] [] μ := fun y1 y2  h => k1 (y1, y2) h
  have kx : ∀ (y : Int32), bd_X7_fewest_2  μ x1 x2 = .inr y → Q (some (.int y)) μ := fun y h => k2 y h
  clear k1 k2
  refine J_iload_n (dk okX7_fewest 2 rfl) 2 rfl rfl ?_
  refine J_bipush (v := 126) (dk okX7_fewest 3 rfl) (by decide) ?_
  refine J_icmp_gt (tgt := 26) (dk okX7_fewest 4 rfl) (by decide) (fun h1 => ?_) (fun h1 => ?_)
  · refine J_bipush (v := (-2)) (dk okX7_fewest 15 rfl) (by decide) ?_
    exact J_iret (dk okX7_fewest 16 rfl) rfl (kx (-2) (by unfold bd_X7_fewest_2; first | (simp only [if_pos h1]; done) | (simp only [if_pos h1]; rfl) | rfl))
  · have t := t h1
    refine J_aload_n (dk okX7_fewest 5 rfl) 0 rfl rfl ?_
    refine J_iconst (v := 0) (dk okX7_fewest 6 rfl) (by decide) ?_
    refine J_iload_n (dk okX7_fewest 7 rfl) 2 rfl rfl ?_
    have s2 := t
    refine J_callVi (As := [.int 0, .int x2]) (dk okX7_fewest 8 rfl) ds_35 rfl vkX7_most lkX7_39 rfl rfl (Nat.le_of_ble_eq_true rfl) (by decide) (con_X7_most s2 ⟨_, rfl, ?_⟩)
    refine J_iload_n (dk okX7_fewest 9 rfl) 1 rfl rfl ?_
    refine J_icmp_lt (tgt := 20) (dk okX7_fewest 10 rfl) (by decide) (fun h3 => ?_) (fun h3 => ?_)
    · refine J_iinc (v := (x2 + 1)) (ls' := [(2, _), (0, _), (1, _)]) (dk okX7_fewest 13 rfl) 2 rfl rfl (by decide) rfl ?_
      refine J_goto (tgt := 2) (dk okX7_fewest 14 rfl) (by decide) ?_
      exact J_sub [1, 2, 0] rfl (kb x1 (x2 + 1) (by unfold bd_X7_fewest_2; first | (simp only [if_neg h1, if_pos h3]; done) | (simp only [if_neg h1, if_pos h3]; rfl) | rfl))
    · refine J_iload_n (dk okX7_fewest 11 rfl) 2 rfl rfl ?_
      exact J_iret (dk okX7_fewest 12 rfl) rfl (kx x2 (by unfold bd_X7_fewest_2; first | (simp only [if_neg h1, if_neg h3]; done) | (simp only [if_neg h1, if_neg h3]; rfl) | rfl))
/-- VotingFloor$Strides.fewest(I)I -/
noncomputable def v_X7_fewest (p0 : Int32) (μ : Mm) : Int32 := (whl (fun s : Int32 × Int32 => bd_X7_fewest_2  μ s.1 s.2) (fun _ : Int32 × Int32 => 0) FU (p0, 0))
def p_X7_fewest (p0 : Int32)  (μ : Mm) : Prop := whP (fun s : Int32 × Int32 => bd_X7_fewest_2  μ s.1 s.2) (fun s : Int32 × Int32 => sd_X7_fewest_2   μ s.1 s.2) FU (p0, 0)
set_option maxRecDepth 20000 in
set_option maxHeartbeats 4000000 in
theorem con_X7_fewest {E : Ex} {Q : Option Value → Mm → Prop} {p0 : Int32} {μ : Mm} (t : p_X7_fewest p0  μ) (k : Q (some (.int (v_X7_fewest p0 μ))) μ) : Con E 3 mX7_fewest [rf E 35, .int p0] μ Q := by
  refine Con_J (by decide +kernel) (Nat.le_of_ble_eq_true rfl) (fun G => ?_)
  unfold v_X7_fewest at k
  unfold p_X7_fewest at t
  refine J_sub (ls' := [(0, rf E 35), (1, .int p0)]) [0, 1] rfl ?_
  refine J_iconst (v := 0) (dk okX7_fewest 0 rfl) (by decide) ?_
  refine J_istore_n (ls' := [(2, _), (0, _), (1, _)]) (dk okX7_fewest 1 rfl) rfl (by decide) rfl ?_
  have s1 := t
  refine J_sub (ls' := [(0, _), (1, _), (2, _)]) [1, 2, 0] rfl ?_
  exact lw_X7_fewest_2  s1 k
noncomputable def bd_X7_setOut_2 (p0 : Nat) (x2 : Int32) (x3 : Int32) (μ : Mm) : (Int32 × Int32 × Mm) ⊕ (Mm) := (if 7 ≤ x3 then .inr μ else (let μ4 : Mm := (upI μ 36 (Int32.toNatClampNeg x3) (v_X1_load p0 x3 μ)); (let μ9 : Mm := (upI μ4 37 (Int32.toNatClampNeg x3) (if (v_X11_isIn x2 x3) = 0 then 0 else (9 - (v_X1_placeOf p0 x3 μ4)) : Int32)); .inl (x2, (x3 + 1), μ9))))
def sd_X7_setOut_2 (p0 : Nat)  (x2 : Int32) (x3 : Int32) (μ : Mm) : Prop := (¬ (7 ≤ x3) → (p_X1_load p0 x3 μ) ∧ (vp_in x3 7) ∧ (∀ μ4 : Mm, μ4 = (upI μ 36 (Int32.toNatClampNeg x3) (v_X1_load p0 x3 μ)) → ((¬ ((v_X11_isIn x2 x3) = 0) → p_X1_placeOf p0 x3 μ4)) ∧ vp_in x3 7))
set_option maxRecDepth 20000 in
set_option maxHeartbeats 4000000 in
theorem lw_X7_setOut_2 {E : Ex} {G : Gx} {Q : Option Value → Mm → Prop} {p0 : Nat} {x2 : Int32} {x3 : Int32} {μ : Mm} (hp0 : FloorAt p0) (p : whP (fun s : Int32 × Int32 × Mm => bd_X7_setOut_2 p0 s.1 s.2.1 s.2.2) (fun s : Int32 × Int32 × Mm => sd_X7_setOut_2 p0  s.1 s.2.1 s.2.2) FU (x2, x3, μ)) (k : ∀ r : Mm, r = whl (fun s : Int32 × Int32 × Mm => bd_X7_setOut_2 p0 s.1 s.2.1 s.2.2) (fun s : Int32 × Int32 × Mm => s.2.2) FU (x2, x3, μ) → J E G 3 mX7_setOut Q 51 [] [] r) : J E G 3 mX7_setOut Q 2 [(0, rf E 35), (1, rf E p0), (2, .int x2), (3, .int x3)] [] μ := by
  refine J_whl (f := (fun s : Int32 × Int32 × Mm => bd_X7_setOut_2 p0 s.1 s.2.1 s.2.2)) (dd := (fun s : Int32 × Int32 × Mm => s.2.2)) (sd := (fun s : Int32 × Int32 × Mm => sd_X7_setOut_2 p0  s.1 s.2.1 s.2.2)) (P := fun s : Int32 × Int32 × Mm => J E G 3 mX7_setOut Q 2 [(0, rf E 35), (1, rf E p0), (2, .int (s.1)), (3, .int (s.2.1))] [] (s.2.2)) (R := fun r : Mm => J E G 3 mX7_setOut Q 51 [] [] r) ?_ FU (x2, x3, μ) p (k _ rfl)
  clear p k
  rintro ⟨x2, x3, μ⟩ t k1 k2
  dsimp only [sd_X7_setOut_2] at t
  have kb : ∀ (y2 : Int32) (y3 : Int32) (μ9 : Mm), bd_X7_setOut_2 p0 x2 x3 μ = .inl (y2, y3, μ9) → J E G 3 mX7_setOut Q 2 [(0, rf E 35), (1, rf E p0), (2, .int y2), (3, .int y3)] [] μ9 := fun y2 y3 μ9 h => k1 (y2, y3, μ9) h
  have kx : ∀  (μ9 : Mm), bd_X7_setOut_2 p0 x2 x3 μ = .inr μ9 → J E G 3 mX7_setOut Q 51 [] [] μ9 := fun  μ9 h => k2 μ9 h
  clear k1 k2
  refine J_iload_n (dk okX7_setOut 2 rfl) 3 rfl rfl ?_
  refine J_bipush (v := 7) (dk okX7_setOut 3 rfl) (by decide) ?_
  refine J_icmp_ge (tgt := 51) (dk okX7_setOut 4 rfl) (by decide) (fun h1 => ?_) (fun h1 => ?_)
  · exact J_sub [] rfl (kx μ (by unfold bd_X7_setOut_2; first | (simp only [if_pos h1]; done) | (simp only [if_pos h1]; rfl) | rfl))
  · have t := t h1
    refine J_aload_n (dk okX7_setOut 5 rfl) 0 rfl rfl ?_
    refine J_getR (dk okX7_setOut 6 rfl) kfX7_9 ds_35 rfl ?_
    refine J_iload_n (dk okX7_setOut 7 rfl) 3 rfl rfl ?_
    refine J_aload_n (dk okX7_setOut 8 rfl) 1 rfl rfl ?_
    refine J_iload_n (dk okX7_setOut 9 rfl) 3 rfl rfl ?_
    obtain ⟨s2, t⟩ := t
    refine J_callVi (As := [.int x3]) (dk okX7_setOut 10 rfl) hp0.1 rfl vkX1_load lkX7_18 rfl rfl (Nat.le_of_ble_eq_true rfl) (by decide) (con_X1_load hp0 s2 ⟨_, rfl, ?_⟩)
    obtain ⟨s3, t⟩ := t
    refine J_iast (dk okX7_setOut 11 rfl) ds_36 s3 ?_
    refine J_nm (fun μ4 eμ4 => ?_)
    have t := t μ4 eμ4
    refine J_aload_n (dk okX7_setOut 12 rfl) 0 rfl rfl ?_
    refine J_getR (dk okX7_setOut 13 rfl) kfX7_15 ds_35 rfl ?_
    refine J_iload_n (dk okX7_setOut 14 rfl) 3 rfl rfl ?_
    refine J_iload_n (dk okX7_setOut 15 rfl) 2 rfl rfl ?_
    refine J_iload_n (dk okX7_setOut 16 rfl) 3 rfl rfl ?_
    refine J_callSNi (As := [.int x2, .int x3]) (dk okX7_setOut 17 rfl) skX11_isIn lkX7_23 rfl rfl (Nat.le_of_ble_eq_true rfl) (by decide) (con_X11_isIn  ⟨_, rfl, ?_⟩)
    obtain ⟨t9, t⟩ := t
    have K7 : J E G 3 mX7_setOut Q 44 [(0, rf E 35), (1, rf E p0), (2, .int x2), (3, .int x3)] [.int (if (v_X11_isIn x2 x3) = 0 then 0 else (9 - (v_X1_placeOf p0 x3 μ4)) : Int32), .int x3, rf E 37] μ4 := by
      have s8 := t
      refine J_iast (dk okX7_setOut 26 rfl) ds_37 s8 ?_
      refine J_nm (fun μ9 eμ9 => ?_)
      refine J_iinc (v := (x3 + 1)) (ls' := [(3, _), (0, _), (1, _), (2, _)]) (dk okX7_setOut 27 rfl) 3 rfl rfl (by decide) rfl ?_
      refine J_goto (tgt := 2) (dk okX7_setOut 28 rfl) (by decide) ?_
      exact J_sub [1, 2, 3, 0] rfl (kb x2 (x3 + 1) μ9 (by subst eμ9 eμ4; unfold bd_X7_setOut_2; first | (simp only [if_neg h1]; done) | (simp only [if_neg h1]; rfl) | rfl))
    have t := t9
    refine J_if_eq (tgt := 43) (dk okX7_setOut 18 rfl) (by decide) (fun h5 => ?_) (fun h5 => ?_)
    · refine J_iconst (v := 0) (dk okX7_setOut 25 rfl) (by decide) ?_
      refine J_sub (ls' := [(0, _), (1, _), (2, _), (3, _)]) [0, 1, 2, 3] rfl ?_
      (try simp only [if_pos h5] at K7 ⊢); exact K7
    · have t := t h5
      refine J_bipush (v := 9) (dk okX7_setOut 19 rfl) (by decide) ?_
      refine J_aload_n (dk okX7_setOut 20 rfl) 1 rfl rfl ?_
      refine J_iload_n (dk okX7_setOut 21 rfl) 3 rfl rfl ?_
      have s6 := t
      refine J_callVi (As := [.int x3]) (dk okX7_setOut 22 rfl) hp0.1 rfl vkX1_placeOf lkX7_27 rfl rfl (Nat.le_of_ble_eq_true rfl) (by decide) (con_X1_placeOf hp0 s6 ⟨_, rfl, ?_⟩)
      refine J_isub (dk okX7_setOut 23 rfl) ?_
      refine J_goto (tgt := 44) (dk okX7_setOut 24 rfl) (by decide) ?_
      refine J_sub (ls' := [(0, _), (1, _), (2, _), (3, _)]) [0, 1, 2, 3] rfl ?_
      (try simp only [if_neg h5] at K7 ⊢); exact K7
/-- VotingFloor$Strides.setOut(LVotingFloor$Floor;I)V -/
noncomputable def e_X7_setOut (p0 : Nat) (p1 : Int32) (μ : Mm) : Mm := (let r2 : Mm := whl (fun s : Int32 × Int32 × Mm => bd_X7_setOut_2 p0 s.1 s.2.1 s.2.2) (fun s : Int32 × Int32 × Mm => s.2.2) FU (p1, 0, μ); r2)
def p_X7_setOut (p0 : Nat) (p1 : Int32)  (μ : Mm) : Prop := whP (fun s : Int32 × Int32 × Mm => bd_X7_setOut_2 p0 s.1 s.2.1 s.2.2) (fun s : Int32 × Int32 × Mm => sd_X7_setOut_2 p0  s.1 s.2.1 s.2.2) FU (p1, 0, μ)
set_option maxRecDepth 20000 in
set_option maxHeartbeats 4000000 in
theorem con_X7_setOut {E : Ex} {Q : Option Value → Mm → Prop} {p0 : Nat} {p1 : Int32} {μ : Mm} (hp0 : FloorAt p0) (t : p_X7_setOut p0 p1  μ) (k : Q none (e_X7_setOut p0 p1 μ)) : Con E 3 mX7_setOut [rf E 35, rf E p0, .int p1] μ Q := by
  refine Con_J (by decide +kernel) (Nat.le_of_ble_eq_true rfl) (fun G => ?_)
  unfold e_X7_setOut at k
  unfold p_X7_setOut at t
  refine J_sub (ls' := [(0, rf E 35), (1, rf E p0), (2, .int p1)]) [0, 1, 2] rfl ?_
  refine J_iconst (v := 0) (dk okX7_setOut 0 rfl) (by decide) ?_
  refine J_istore_n (ls' := [(3, _), (0, _), (1, _), (2, _)]) (dk okX7_setOut 1 rfl) rfl (by decide) rfl ?_
  have s1 := t
  refine J_sub (ls' := [(0, _), (1, _), (2, _), (3, _)]) [1, 2, 3, 0] rfl ?_
  refine lw_X7_setOut_2 hp0 s1 (fun r2 er2 => ?_)
  subst er2
  exact J_vret (dk okX7_setOut 29 rfl) rfl k
noncomputable def bd_X8_search_12  (x1 : Int32) (x2 : Int32) (μ : Mm) : (Int32 × Int32 × Mm) ⊕ (Mm) := (if (μ.1 33 1) < x2 then .inr μ else (let μ12 : Mm := (if (x2 &&& ((μ.1 33 1) ^^^ (-1))) = 0 then (if (v_X8_does (v_X8_total x2 μ) x1) = 0 then μ else ((upI ((if (μ.1 33 4) = 0 then ((upI μ 33 3 x2)) else (if (v_J6_bitCount_0f7a4 (μ.1 33 3)) ≤ (v_J6_bitCount_0f7a4 x2) then μ else ((upI μ 33 3 x2)) : Mm) : Mm)) 33 4 ((((if (μ.1 33 4) = 0 then ((upI μ 33 3 x2)) else (if (v_J6_bitCount_0f7a4 (μ.1 33 3)) ≤ (v_J6_bitCount_0f7a4 x2) then μ else ((upI μ 33 3 x2)) : Mm) : Mm)).1 33 4) + 1))) : Mm) else μ : Mm); .inl (x1, (x2 + 1), μ12)))
def sd_X8_search_12   (x1 : Int32) (x2 : Int32) (μ : Mm) : Prop := (¬ ((μ.1 33 1) < x2) → ((x2 &&& ((μ.1 33 1) ^^^ (-1))) = 0 → p_X8_total x2 μ))
set_option maxRecDepth 20000 in
set_option maxHeartbeats 4000000 in
theorem lw_X8_search_12 {E : Ex} {G : Gx} {Q : Option Value → Mm → Prop} {x1 : Int32} {x2 : Int32} {μ : Mm}  (p : whP (fun s : Int32 × Int32 × Mm => bd_X8_search_12  s.1 s.2.1 s.2.2) (fun s : Int32 × Int32 × Mm => sd_X8_search_12   s.1 s.2.1 s.2.2) FU (x1, x2, μ)) (k : ∀ r : Mm, r = whl (fun s : Int32 × Int32 × Mm => bd_X8_search_12  s.1 s.2.1 s.2.2) (fun s : Int32 × Int32 × Mm => s.2.2) FU (x1, x2, μ) → J E G 3 mX8_search Q 85 [(0, rf E 33)] [] r) : J E G 3 mX8_search Q 12 [(0, rf E 33), (1, .int x1), (2, .int x2)] [] μ := by
  refine J_whl (f := (fun s : Int32 × Int32 × Mm => bd_X8_search_12  s.1 s.2.1 s.2.2)) (dd := (fun s : Int32 × Int32 × Mm => s.2.2)) (sd := (fun s : Int32 × Int32 × Mm => sd_X8_search_12   s.1 s.2.1 s.2.2)) (P := fun s : Int32 × Int32 × Mm => J E G 3 mX8_search Q 12 [(0, rf E 33), (1, .int (s.1)), (2, .int (s.2.1))] [] (s.2.2)) (R := fun r : Mm => J E G 3 mX8_search Q 85 [(0, rf E 33)] [] r) ?_ FU (x1, x2, μ) p (k _ rfl)
  clear p k
  rintro ⟨x1, x2, μ⟩ t k1 k2
  dsimp only [sd_X8_search_12] at t
  have kb : ∀ (y1 : Int32) (y2 : Int32) (μ9 : Mm), bd_X8_search_12  x1 x2 μ = .inl (y1, y2, μ9) → J E G 3 mX8_search Q 12 [(0, rf E 33), (1, .int y1), (2, .int y2)] [] μ9 := fun y1 y2 μ9 h => k1 (y1, y2, μ9) h
  have kx : ∀  (μ9 : Mm), bd_X8_search_12  x1 x2 μ = .inr μ9 → J E G 3 mX8_search Q 85 [(0, rf E 33)] [] μ9 := fun  μ9 h => k2 μ9 h
  clear k1 k2
  refine J_iload_n (dk okX8_search 8 rfl) 2 rfl rfl ?_
  refine J_aload_n (dk okX8_search 9 rfl) 0 rfl rfl ?_
  refine J_getI (dk okX8_search 10 rfl) kfX8_15 ds_33 rfl ?_
  refine J_icmp_gt (tgt := 85) (dk okX8_search 11 rfl) (by decide) (fun h1 => ?_) (fun h1 => ?_)
  · exact J_sub [0] rfl (kx μ (by unfold bd_X8_search_12; first | (simp only [if_pos h1]; done) | (simp only [if_pos h1]; rfl) | rfl))
  · have t := t h1
    refine J_iload_n (dk okX8_search 12 rfl) 2 rfl rfl ?_
    refine J_aload_n (dk okX8_search 13 rfl) 0 rfl rfl ?_
    refine J_getI (dk okX8_search 14 rfl) kfX8_15 ds_33 rfl ?_
    refine J_iconst (v := (-1)) (dk okX8_search 15 rfl) (by decide) ?_
    refine J_ixor (dk okX8_search 16 rfl) ?_
    refine J_iand (dk okX8_search 17 rfl) ?_
    have K13 : J E G 3 mX8_search Q 79 [(0, rf E 33), (1, .int x1), (2, .int x2)] [] (if (x2 &&& ((μ.1 33 1) ^^^ (-1))) = 0 then (if (v_X8_does (v_X8_total x2 μ) x1) = 0 then μ else ((upI ((if (μ.1 33 4) = 0 then ((upI μ 33 3 x2)) else (if (v_J6_bitCount_0f7a4 (μ.1 33 3)) ≤ (v_J6_bitCount_0f7a4 x2) then μ else ((upI μ 33 3 x2)) : Mm) : Mm)) 33 4 ((((if (μ.1 33 4) = 0 then ((upI μ 33 3 x2)) else (if (v_J6_bitCount_0f7a4 (μ.1 33 3)) ≤ (v_J6_bitCount_0f7a4 x2) then μ else ((upI μ 33 3 x2)) : Mm) : Mm)).1 33 4) + 1))) : Mm) else μ : Mm) := by
      refine J_nm (fun μ12 eμ12 => ?_)
      refine J_iinc (v := (x2 + 1)) (ls' := [(2, _), (0, _), (1, _)]) (dk okX8_search 43 rfl) 2 rfl rfl (by decide) rfl ?_
      refine J_goto (tgt := 12) (dk okX8_search 44 rfl) (by decide) ?_
      exact J_sub [1, 2, 0] rfl (kb x1 (x2 + 1) μ12 (by subst eμ12; unfold bd_X8_search_12; first | (simp only [if_neg h1]; done) | (simp only [if_neg h1]; rfl) | rfl))
    refine J_if_ne (tgt := 79) (dk okX8_search 18 rfl) (by decide) (fun h2 => ?_) (fun h2 => ?_)
    · refine J_sub (ls' := [(0, _), (1, _), (2, _)]) [0, 1, 2] rfl ?_
      (try simp only [if_neg h2] at K13 ⊢); exact K13
    · have t := t h2
      refine J_aload_n (dk okX8_search 19 rfl) 0 rfl rfl ?_
      refine J_iload_n (dk okX8_search 20 rfl) 2 rfl rfl ?_
      have s3 := t
      refine J_callVi (As := [.int x2]) (dk okX8_search 21 rfl) ds_33 rfl vkX8_total lkX8_32 rfl rfl (Nat.le_of_ble_eq_true rfl) (by decide) (con_X8_total s3 ⟨_, rfl, ?_⟩)
      refine J_iload_n (dk okX8_search 22 rfl) 1 rfl rfl ?_
      refine J_callSi (As := [.int (v_X8_total x2 μ), .int x1]) (dk okX8_search 23 rfl) skX8_does lkX8_36 rfl rfl (Nat.le_of_ble_eq_true rfl) (by decide) (con_X8_does  ⟨_, rfl, ?_⟩)
      refine J_if_eq (tgt := 79) (dk okX8_search 24 rfl) (by decide) (fun h4 => ?_) (fun h4 => ?_)
      · refine J_sub (ls' := [(0, _), (1, _), (2, _)]) [0, 1, 2] rfl ?_
        (try simp only [if_pos h2, if_pos h4] at K13 ⊢); exact K13
      · refine J_aload_n (dk okX8_search 25 rfl) 0 rfl rfl ?_
        refine J_getI (dk okX8_search 26 rfl) kfX8_25 ds_33 rfl ?_
        have K11 : J E G 3 mX8_search Q 69 [(0, rf E 33), (1, .int x1), (2, .int x2)] [] (if (μ.1 33 4) = 0 then ((upI μ 33 3 x2)) else (if (v_J6_bitCount_0f7a4 (μ.1 33 3)) ≤ (v_J6_bitCount_0f7a4 x2) then μ else ((upI μ 33 3 x2)) : Mm) : Mm) := by
          refine J_nm (fun μ9 eμ9 => ?_)
          refine J_aload_n (dk okX8_search 37 rfl) 0 rfl rfl ?_
          refine J_dup (dk okX8_search 38 rfl) rfl ?_
          refine J_getI (dk okX8_search 39 rfl) kfX8_25 ds_33 rfl ?_
          refine J_iconst (v := 1) (dk okX8_search 40 rfl) (by decide) ?_
          refine J_iadd (dk okX8_search 41 rfl) ?_
          refine J_put (dk okX8_search 42 rfl) kpX8_25 ds_33 rfl rfl rfl ?_
          refine J_nm (fun μ10 eμ10 => ?_)
          subst eμ10 eμ9
          refine J_sub (ls' := [(0, _), (1, _), (2, _)]) [0, 1, 2] rfl ?_
          (try simp only [if_pos h2, if_neg h4] at K13 ⊢); exact K13
        refine J_if_eq (tgt := 64) (dk okX8_search 27 rfl) (by decide) (fun h5 => ?_) (fun h5 => ?_)
        · refine J_aload_n (dk okX8_search 34 rfl) 0 rfl rfl ?_
          refine J_iload_n (dk okX8_search 35 rfl) 2 rfl rfl ?_
          refine J_put (dk okX8_search 36 rfl) kpX8_22 ds_33 rfl rfl rfl ?_
          refine J_nm (fun μ6 eμ6 => ?_)
          subst eμ6
          refine J_sub (ls' := [(0, _), (1, _), (2, _)]) [0, 1, 2] rfl ?_
          (try simp only [if_pos h5] at K11 ⊢); exact K11
        · refine J_iload_n (dk okX8_search 28 rfl) 2 rfl rfl ?_
          refine J_callSi (As := [.int x2]) (dk okX8_search 29 rfl) skJ6_bitCount_0f7a4 lkX8_40 rfl rfl (Nat.le_of_ble_eq_true rfl) (by decide) (con_J6_bitCount_0f7a4  ⟨_, rfl, ?_⟩)
          refine J_aload_n (dk okX8_search 30 rfl) 0 rfl rfl ?_
          refine J_getI (dk okX8_search 31 rfl) kfX8_22 ds_33 rfl ?_
          refine J_callSi (As := [.int (μ.1 33 3)]) (dk okX8_search 32 rfl) skJ6_bitCount_0f7a4 lkX8_40 rfl rfl (Nat.le_of_ble_eq_true rfl) (by decide) (con_J6_bitCount_0f7a4  ⟨_, rfl, ?_⟩)
          refine J_icmp_ge (tgt := 69) (dk okX8_search 33 rfl) (by decide) (fun h7 => ?_) (fun h7 => ?_)
          · refine J_sub (ls' := [(0, _), (1, _), (2, _)]) [0, 1, 2] rfl ?_
            (try simp only [if_neg h5, if_pos h7] at K11 ⊢); exact K11
          · refine J_aload_n (dk okX8_search 34 rfl) 0 rfl rfl ?_
            refine J_iload_n (dk okX8_search 35 rfl) 2 rfl rfl ?_
            refine J_put (dk okX8_search 36 rfl) kpX8_22 ds_33 rfl rfl rfl ?_
            refine J_nm (fun μ8 eμ8 => ?_)
            subst eμ8
            refine J_sub (ls' := [(0, _), (1, _), (2, _)]) [0, 1, 2] rfl ?_
            (try simp only [if_neg h5, if_neg h7] at K11 ⊢); exact K11
/-- VotingFloor$Sums.search(Z)Z -/
noncomputable def v_X8_search (p0 : Int32) (μ : Mm) : Int32 := (let μ1 : Mm := (upI μ 33 4 0); (let μ2 : Mm := (upI μ1 33 3 0); (let r4 : Mm := whl (fun s : Int32 × Int32 × Mm => bd_X8_search_12  s.1 s.2.1 s.2.2) (fun s : Int32 × Int32 × Mm => s.2.2) FU (p0, 0, μ2); (if (r4.1 33 4) ≤ 0 then 0 else 1 : Int32))))
noncomputable def e_X8_search (p0 : Int32) (μ : Mm) : Mm := (let μ1 : Mm := (upI μ 33 4 0); (let μ2 : Mm := (upI μ1 33 3 0); (let r4 : Mm := whl (fun s : Int32 × Int32 × Mm => bd_X8_search_12  s.1 s.2.1 s.2.2) (fun s : Int32 × Int32 × Mm => s.2.2) FU (p0, 0, μ2); r4)))
def p_X8_search (p0 : Int32)  (μ : Mm) : Prop := (∀ μ1 : Mm, μ1 = (upI μ 33 4 0) → (∀ μ2 : Mm, μ2 = (upI μ1 33 3 0) → whP (fun s : Int32 × Int32 × Mm => bd_X8_search_12  s.1 s.2.1 s.2.2) (fun s : Int32 × Int32 × Mm => sd_X8_search_12   s.1 s.2.1 s.2.2) FU (p0, 0, μ2)))
set_option maxRecDepth 20000 in
set_option maxHeartbeats 4000000 in
theorem con_X8_search {E : Ex} {Q : Option Value → Mm → Prop} {p0 : Int32} {μ : Mm} (t : p_X8_search p0  μ) (k : Q (some (.int (v_X8_search p0 μ))) (e_X8_search p0 μ)) : Con E 3 mX8_search [rf E 33, .int p0] μ Q := by
  refine Con_J (by decide +kernel) (Nat.le_of_ble_eq_true rfl) (fun G => ?_)
  unfold v_X8_search e_X8_search at k
  unfold p_X8_search at t
  refine J_sub (ls' := [(0, rf E 33), (1, .int p0)]) [0, 1] rfl ?_
  refine J_aload_n (dk okX8_search 0 rfl) 0 rfl rfl ?_
  refine J_iconst (v := 0) (dk okX8_search 1 rfl) (by decide) ?_
  refine J_put (dk okX8_search 2 rfl) kpX8_25 ds_33 rfl rfl rfl ?_
  refine J_nm (fun μ1 eμ1 => ?_)
  have t := t μ1 eμ1
  refine J_aload_n (dk okX8_search 3 rfl) 0 rfl rfl ?_
  refine J_iconst (v := 0) (dk okX8_search 4 rfl) (by decide) ?_
  refine J_put (dk okX8_search 5 rfl) kpX8_22 ds_33 rfl rfl rfl ?_
  refine J_nm (fun μ2 eμ2 => ?_)
  have t := t μ2 eμ2
  refine J_iconst (v := 0) (dk okX8_search 6 rfl) (by decide) ?_
  refine J_istore_n (ls' := [(2, _), (0, _), (1, _)]) (dk okX8_search 7 rfl) rfl (by decide) rfl ?_
  have s3 := t
  refine J_sub (ls' := [(0, _), (1, _), (2, _)]) [1, 2, 0] rfl ?_
  refine lw_X8_search_12  s3 (fun r4 er4 => ?_)
  refine J_aload_n (dk okX8_search 45 rfl) 0 rfl rfl ?_
  refine J_getI (dk okX8_search 46 rfl) kfX8_25 ds_33 rfl ?_
  have K6 : J E G 3 mX8_search Q 97 [] [.int (if (r4.1 33 4) ≤ 0 then 0 else 1 : Int32)] r4 := by
    subst er4 eμ2 eμ1
    exact J_zret (dk okX8_search 51 rfl) rfl (by (repeat' split) <;> first | rfl | (simp only [*]; rfl)) k
  refine J_if_le (tgt := 96) (dk okX8_search 47 rfl) (by decide) (fun h5 => ?_) (fun h5 => ?_)
  · refine J_iconst (v := 0) (dk okX8_search 50 rfl) (by decide) ?_
    refine J_sub (ls' := []) [] rfl ?_
    (try simp only [if_pos h5] at K6 ⊢); exact K6
  · refine J_iconst (v := 1) (dk okX8_search 48 rfl) (by decide) ?_
    refine J_goto (tgt := 97) (dk okX8_search 49 rfl) (by decide) ?_
    refine J_sub (ls' := []) [] rfl ?_
    (try simp only [if_neg h5] at K6 ⊢); exact K6
noncomputable def bd_X8_waysWithin_4  (μ : Mm) (x1 : Int32) (x2 : Int32) (x3 : Int32) : (Int32 × Int32 × Int32) ⊕ (Int32) := (if (μ.1 33 1) < x3 then .inr x2 else .inl (x1, (if (x3 &&& ((μ.1 33 1) ^^^ (-1))) = 0 then (x2 + (if ((v_X8_total x3 μ) + x1) ≤ 0 then 0 else (if 0 < ((v_X8_total x3 μ) - x1) then 0 else 1 : Int32) : Int32)) else x2 : Int32), (x3 + 1)))
def sd_X8_waysWithin_4   (μ : Mm) (x1 : Int32) (x2 : Int32) (x3 : Int32) : Prop := (¬ ((μ.1 33 1) < x3) → ((x3 &&& ((μ.1 33 1) ^^^ (-1))) = 0 → p_X8_total x3 μ))
set_option maxRecDepth 20000 in
set_option maxHeartbeats 4000000 in
theorem lw_X8_waysWithin_4 {E : Ex} {G : Gx} {Q : Option Value → Mm → Prop} {x1 : Int32} {x2 : Int32} {x3 : Int32} {μ : Mm}  (p : whP (fun s : Int32 × Int32 × Int32 => bd_X8_waysWithin_4  μ s.1 s.2.1 s.2.2) (fun s : Int32 × Int32 × Int32 => sd_X8_waysWithin_4   μ s.1 s.2.1 s.2.2) FU (x1, x2, x3)) (k : ∀ r : Int32, r = whl (fun s : Int32 × Int32 × Int32 => bd_X8_waysWithin_4  μ s.1 s.2.1 s.2.2) (fun _ : Int32 × Int32 × Int32 => 0) FU (x1, x2, x3) → J E G 3 mX8_waysWithin Q 58 [(2, .int r)] [] μ) : J E G 3 mX8_waysWithin Q 4 [(0, rf E 33), (1, .int x1), (2, .int x2), (3, .int x3)] [] μ := by
  refine J_whl (f := (fun s : Int32 × Int32 × Int32 => bd_X8_waysWithin_4  μ s.1 s.2.1 s.2.2)) (dd := (fun _ : Int32 × Int32 × Int32 => 0)) (sd := (fun s : Int32 × Int32 × Int32 => sd_X8_waysWithin_4   μ s.1 s.2.1 s.2.2)) (P := fun s : Int32 × Int32 × Int32 => J E G 3 mX8_waysWithin Q 4 [(0, rf E 33), (1, .int (s.1)), (2, .int (s.2.1)), (3, .int (s.2.2))] [] (μ)) (R := fun r : Int32 => J E G 3 mX8_waysWithin Q 58 [(2, .int r)] [] μ) ?_ FU (x1, x2, x3) p (k _ rfl)
  clear p k
  rintro ⟨x1, x2, x3⟩ t k1 k2
  dsimp only [sd_X8_waysWithin_4] at t
  have kb : ∀ (y1 : Int32) (y2 : Int32) (y3 : Int32) , bd_X8_waysWithin_4  μ x1 x2 x3 = .inl (y1, y2, y3) → J E G 3 mX8_waysWithin Q 4 [(0, rf E 33), (1, .int y1), (2, .int y2), (3, .int y3)] [] μ := fun y1 y2 y3  h => k1 (y1, y2, y3) h
  have kx : ∀ (y2 : Int32) , bd_X8_waysWithin_4  μ x1 x2 x3 = .inr y2 → J E G 3 mX8_waysWithin Q 58 [(2, .int y2)] [] μ := fun y2  h => k2 y2 h
  clear k1 k2
  refine J_iload_n (dk okX8_waysWithin 4 rfl) 3 rfl rfl ?_
  refine J_aload_n (dk okX8_waysWithin 5 rfl) 0 rfl rfl ?_
  refine J_getI (dk okX8_waysWithin 6 rfl) kfX8_15 ds_33 rfl ?_
  refine J_icmp_gt (tgt := 58) (dk okX8_waysWithin 7 rfl) (by decide) (fun h1 => ?_) (fun h1 => ?_)
  · exact J_sub [2] rfl (kx x2 (by unfold bd_X8_waysWithin_4; first | (simp only [if_pos h1]; done) | (simp only [if_pos h1]; rfl) | rfl))
  · have t := t h1
    refine J_iload_n (dk okX8_waysWithin 8 rfl) 3 rfl rfl ?_
    refine J_aload_n (dk okX8_waysWithin 9 rfl) 0 rfl rfl ?_
    refine J_getI (dk okX8_waysWithin 10 rfl) kfX8_15 ds_33 rfl ?_
    refine J_iconst (v := (-1)) (dk okX8_waysWithin 11 rfl) (by decide) ?_
    refine J_ixor (dk okX8_waysWithin 12 rfl) ?_
    refine J_iand (dk okX8_waysWithin 13 rfl) ?_
    have K7 : J E G 3 mX8_waysWithin Q 52 [(0, rf E 33), (1, .int x1), (2, .int (if (x3 &&& ((μ.1 33 1) ^^^ (-1))) = 0 then (x2 + (if ((v_X8_total x3 μ) + x1) ≤ 0 then 0 else (if 0 < ((v_X8_total x3 μ) - x1) then 0 else 1 : Int32) : Int32)) else x2 : Int32)), (3, .int x3)] [] μ := by
      refine J_iinc (v := (x3 + 1)) (ls' := [(3, _), (0, _), (1, _), (2, _)]) (dk okX8_waysWithin 33 rfl) 3 rfl rfl (by decide) rfl ?_
      refine J_goto (tgt := 4) (dk okX8_waysWithin 34 rfl) (by decide) ?_
      exact J_sub [1, 2, 3, 0] rfl (kb x1 (if (x3 &&& ((μ.1 33 1) ^^^ (-1))) = 0 then (x2 + (if ((v_X8_total x3 μ) + x1) ≤ 0 then 0 else (if 0 < ((v_X8_total x3 μ) - x1) then 0 else 1 : Int32) : Int32)) else x2 : Int32) (x3 + 1) (by unfold bd_X8_waysWithin_4; first | (simp only [if_neg h1]; done) | (simp only [if_neg h1]; rfl) | rfl))
    refine J_if_ne (tgt := 52) (dk okX8_waysWithin 14 rfl) (by decide) (fun h2 => ?_) (fun h2 => ?_)
    · refine J_sub (ls' := [(0, _), (1, _), (2, _), (3, _)]) [0, 1, 2, 3] rfl ?_
      (try simp only [if_neg h2] at K7 ⊢); exact K7
    · have t := t h2
      refine J_aload_n (dk okX8_waysWithin 15 rfl) 0 rfl rfl ?_
      refine J_iload_n (dk okX8_waysWithin 16 rfl) 3 rfl rfl ?_
      have s3 := t
      refine J_callVi (As := [.int x3]) (dk okX8_waysWithin 17 rfl) ds_33 rfl vkX8_total lkX8_32 rfl rfl (Nat.le_of_ble_eq_true rfl) (by decide) (con_X8_total s3 ⟨_, rfl, ?_⟩)
      refine J_istore (ls' := [(4, _), (0, _), (1, _), (2, _), (3, _)]) (dk okX8_waysWithin 18 rfl) (by decide) rfl ?_
      refine J_iload_n (dk okX8_waysWithin 19 rfl) 3 rfl rfl ?_
      refine J_iload (dk okX8_waysWithin 20 rfl) 0 rfl ?_
      refine J_iload_n (dk okX8_waysWithin 21 rfl) 2 rfl rfl ?_
      refine J_iadd (dk okX8_waysWithin 22 rfl) ?_
      have K6 : J E G 3 mX8_waysWithin Q 50 [(0, rf E 33), (1, .int x1), (3, .int x3)] [.int (if ((v_X8_total x3 μ) + x1) ≤ 0 then 0 else (if 0 < ((v_X8_total x3 μ) - x1) then 0 else 1 : Int32) : Int32), .int x2] μ := by
        refine J_iadd (dk okX8_waysWithin 31 rfl) ?_
        refine J_istore_n (ls' := [(2, _), (0, _), (1, _), (3, _)]) (dk okX8_waysWithin 32 rfl) rfl (by decide) rfl ?_
        refine J_sub (ls' := [(0, _), (1, _), (2, _), (3, _)]) [1, 2, 0, 3] rfl ?_
        (try simp only [if_pos h2] at K7 ⊢); exact K7
      refine J_if_le (tgt := 49) (dk okX8_waysWithin 23 rfl) (by decide) (fun h4 => ?_) (fun h4 => ?_)
      · refine J_iconst (v := 0) (dk okX8_waysWithin 30 rfl) (by decide) ?_
        refine J_sub (ls' := [(0, _), (1, _), (3, _)]) [1, 2, 4] rfl ?_
        (try simp only [if_pos h4] at K6 ⊢); exact K6
      · refine J_iload (dk okX8_waysWithin 24 rfl) 0 rfl ?_
        refine J_iload_n (dk okX8_waysWithin 25 rfl) 2 rfl rfl ?_
        refine J_isub (dk okX8_waysWithin 26 rfl) ?_
        refine J_if_gt (tgt := 49) (dk okX8_waysWithin 27 rfl) (by decide) (fun h5 => ?_) (fun h5 => ?_)
        · refine J_iconst (v := 0) (dk okX8_waysWithin 30 rfl) (by decide) ?_
          refine J_sub (ls' := [(0, _), (1, _), (3, _)]) [1, 2, 4] rfl ?_
          (try simp only [if_neg h4, if_pos h5] at K6 ⊢); exact K6
        · refine J_iconst (v := 1) (dk okX8_waysWithin 28 rfl) (by decide) ?_
          refine J_goto (tgt := 50) (dk okX8_waysWithin 29 rfl) (by decide) ?_
          refine J_sub (ls' := [(0, _), (1, _), (3, _)]) [1, 2, 4] rfl ?_
          (try simp only [if_neg h4, if_neg h5] at K6 ⊢); exact K6
/-- VotingFloor$Sums.waysWithin(I)I -/
noncomputable def v_X8_waysWithin (p0 : Int32) (μ : Mm) : Int32 := (let r2 : Int32 := whl (fun s : Int32 × Int32 × Int32 => bd_X8_waysWithin_4  μ s.1 s.2.1 s.2.2) (fun _ : Int32 × Int32 × Int32 => 0) FU (p0, 0, 0); r2)
def p_X8_waysWithin (p0 : Int32)  (μ : Mm) : Prop := whP (fun s : Int32 × Int32 × Int32 => bd_X8_waysWithin_4  μ s.1 s.2.1 s.2.2) (fun s : Int32 × Int32 × Int32 => sd_X8_waysWithin_4   μ s.1 s.2.1 s.2.2) FU (p0, 0, 0)
set_option maxRecDepth 20000 in
set_option maxHeartbeats 4000000 in
theorem con_X8_waysWithin {E : Ex} {Q : Option Value → Mm → Prop} {p0 : Int32} {μ : Mm} (t : p_X8_waysWithin p0  μ) (k : Q (some (.int (v_X8_waysWithin p0 μ))) μ) : Con E 3 mX8_waysWithin [rf E 33, .int p0] μ Q := by
  refine Con_J (by decide +kernel) (Nat.le_of_ble_eq_true rfl) (fun G => ?_)
  unfold v_X8_waysWithin at k
  unfold p_X8_waysWithin at t
  refine J_sub (ls' := [(0, rf E 33), (1, .int p0)]) [0, 1] rfl ?_
  refine J_iconst (v := 0) (dk okX8_waysWithin 0 rfl) (by decide) ?_
  refine J_istore_n (ls' := [(2, _), (0, _), (1, _)]) (dk okX8_waysWithin 1 rfl) rfl (by decide) rfl ?_
  refine J_iconst (v := 0) (dk okX8_waysWithin 2 rfl) (by decide) ?_
  refine J_istore_n (ls' := [(3, _), (2, _), (0, _), (1, _)]) (dk okX8_waysWithin 3 rfl) rfl (by decide) rfl ?_
  have s1 := t
  refine J_sub (ls' := [(0, _), (1, _), (2, _), (3, _)]) [2, 3, 1, 0] rfl ?_
  refine lw_X8_waysWithin_4  s1 (fun r2 er2 => ?_)
  refine J_iload_n (dk okX8_waysWithin 35 rfl) 0 rfl rfl ?_
  subst er2
  exact J_iret (dk okX8_waysWithin 36 rfl) rfl k
noncomputable def bd_X9_badActSign_14  (μ : Mm) (x1 : Int32) (x2 : Int32) (x3 : Int32) : (Int32 × Int32 × Int32) ⊕ (Int32) := (if x1 ≤ x3 then .inr (if x1 < (μ.1 25 1) then x1 else (if x1 ≤ x2 then (-1) else x1 : Int32) : Int32) else (if (v_X9_standsInAct x2 x3 μ) = 0 then .inr x3 else .inl (x1, (if ((x3 - x2) + 1) = (v_X9_actLength (v_X9_at x2 μ)) then (x3 + 1) else x2 : Int32), (x3 + 1))))
def sd_X9_badActSign_14   (μ : Mm) (x1 : Int32) (x2 : Int32) (x3 : Int32) : Prop := (¬ (x1 ≤ x3) → (p_X9_standsInAct x2 x3 μ) ∧ (¬ ((v_X9_standsInAct x2 x3 μ) = 0) → p_X9_at x2 μ))
set_option maxRecDepth 20000 in
set_option maxHeartbeats 4000000 in
theorem lw_X9_badActSign_14 {E : Ex} {G : Gx} {Q : Option Value → Mm → Prop} {x1 : Int32} {x2 : Int32} {x3 : Int32} {μ : Mm}  (p : whP (fun s : Int32 × Int32 × Int32 => bd_X9_badActSign_14  μ s.1 s.2.1 s.2.2) (fun s : Int32 × Int32 × Int32 => sd_X9_badActSign_14   μ s.1 s.2.1 s.2.2) FU (x1, x2, x3)) (k : Q (some (.int (whl (fun s : Int32 × Int32 × Int32 => bd_X9_badActSign_14  μ s.1 s.2.1 s.2.2) (fun _ : Int32 × Int32 × Int32 => 0) FU (x1, x2, x3)))) μ) : J E G 3 mX9_badActSign Q 14 [(0, rf E 25), (1, .int x1), (2, .int x2), (3, .int x3)] [] μ := by
  refine J_whl (f := (fun s : Int32 × Int32 × Int32 => bd_X9_badActSign_14  μ s.1 s.2.1 s.2.2)) (dd := (fun _ : Int32 × Int32 × Int32 => 0)) (sd := (fun s : Int32 × Int32 × Int32 => sd_X9_badActSign_14   μ s.1 s.2.1 s.2.2)) (P := fun s : Int32 × Int32 × Int32 => J E G 3 mX9_badActSign Q 14 [(0, rf E 25), (1, .int (s.1)), (2, .int (s.2.1)), (3, .int (s.2.2))] [] (μ)) (R := fun r : Int32 => Q (some (.int (r))) μ) ?_ FU (x1, x2, x3) p k
  clear p k
  rintro ⟨x1, x2, x3⟩ t k1 k2
  dsimp only [sd_X9_badActSign_14] at t
  have kb : ∀ (y1 : Int32) (y2 : Int32) (y3 : Int32) , bd_X9_badActSign_14  μ x1 x2 x3 = .inl (y1, y2, y3) → J E G 3 mX9_badActSign Q 14 [(0, rf E 25), (1, .int y1), (2, .int y2), (3, .int y3)] [] μ := fun y1 y2 y3  h => k1 (y1, y2, y3) h
  have kx : ∀ (y : Int32), bd_X9_badActSign_14  μ x1 x2 x3 = .inr y → Q (some (.int y)) μ := fun y h => k2 y h
  clear k1 k2
  refine J_iload_n (dk okX9_badActSign 9 rfl) 3 rfl rfl ?_
  refine J_iload_n (dk okX9_badActSign 10 rfl) 1 rfl rfl ?_
  refine J_icmp_ge (tgt := 56) (dk okX9_badActSign 11 rfl) (by decide) (fun h1 => ?_) (fun h1 => ?_)
  · refine J_aload_n (dk okX9_badActSign 35 rfl) 0 rfl rfl ?_
    refine J_getI (dk okX9_badActSign 36 rfl) kfX9_15 ds_25 rfl ?_
    refine J_iload_n (dk okX9_badActSign 37 rfl) 1 rfl rfl ?_
    have K4 : J E G 3 mX9_badActSign Q 74 [] [.int (if x1 < (μ.1 25 1) then x1 else (if x1 ≤ x2 then (-1) else x1 : Int32) : Int32)] μ := by
      exact J_iret (dk okX9_badActSign 45 rfl) rfl (kx (if x1 < (μ.1 25 1) then x1 else (if x1 ≤ x2 then (-1) else x1 : Int32) : Int32) (by unfold bd_X9_badActSign_14; first | (simp only [if_pos h1]; done) | (simp only [if_pos h1]; rfl) | rfl))
    refine J_icmp_gt (tgt := 69) (dk okX9_badActSign 38 rfl) (by decide) (fun h2 => ?_) (fun h2 => ?_)
    · refine J_iload_n (dk okX9_badActSign 42 rfl) 1 rfl rfl ?_
      refine J_goto (tgt := 74) (dk okX9_badActSign 43 rfl) (by decide) ?_
      refine J_sub (ls' := []) [] rfl ?_
      (try simp only [if_pos h2] at K4 ⊢); exact K4
    · refine J_iload_n (dk okX9_badActSign 39 rfl) 2 rfl rfl ?_
      refine J_iload_n (dk okX9_badActSign 40 rfl) 1 rfl rfl ?_
      refine J_icmp_ge (tgt := 73) (dk okX9_badActSign 41 rfl) (by decide) (fun h3 => ?_) (fun h3 => ?_)
      · refine J_iconst (v := (-1)) (dk okX9_badActSign 44 rfl) (by decide) ?_
        refine J_sub (ls' := []) [] rfl ?_
        (try simp only [if_neg h2, if_pos h3] at K4 ⊢); exact K4
      · refine J_iload_n (dk okX9_badActSign 42 rfl) 1 rfl rfl ?_
        refine J_goto (tgt := 74) (dk okX9_badActSign 43 rfl) (by decide) ?_
        refine J_sub (ls' := []) [] rfl ?_
        (try simp only [if_neg h2, if_neg h3] at K4 ⊢); exact K4
  · have t := t h1
    refine J_aload_n (dk okX9_badActSign 12 rfl) 0 rfl rfl ?_
    refine J_iload_n (dk okX9_badActSign 13 rfl) 2 rfl rfl ?_
    refine J_iload_n (dk okX9_badActSign 14 rfl) 3 rfl rfl ?_
    obtain ⟨s5, t⟩ := t
    refine J_callVi (As := [.int x2, .int x3]) (dk okX9_badActSign 15 rfl) ds_25 rfl vkX9_standsInAct lkX9_41 rfl rfl (Nat.le_of_ble_eq_true rfl) (by decide) (con_X9_standsInAct s5 ⟨_, rfl, ?_⟩)
    refine J_if_ne (tgt := 30) (dk okX9_badActSign 16 rfl) (by decide) (fun h6 => ?_) (fun h6 => ?_)
    · have t := t h6
      refine J_iload_n (dk okX9_badActSign 19 rfl) 3 rfl rfl ?_
      refine J_iload_n (dk okX9_badActSign 20 rfl) 2 rfl rfl ?_
      refine J_isub (dk okX9_badActSign 21 rfl) ?_
      refine J_iconst (v := 1) (dk okX9_badActSign 22 rfl) (by decide) ?_
      refine J_iadd (dk okX9_badActSign 23 rfl) ?_
      refine J_aload_n (dk okX9_badActSign 24 rfl) 0 rfl rfl ?_
      refine J_iload_n (dk okX9_badActSign 25 rfl) 2 rfl rfl ?_
      have s7 := t
      refine J_callVi (As := [.int x2]) (dk okX9_badActSign 26 rfl) ds_25 rfl vkX9_at lkX9_19 rfl rfl (Nat.le_of_ble_eq_true rfl) (by decide) (con_X9_at s7 ⟨_, rfl, ?_⟩)
      refine J_callSi (As := [.int (v_X9_at x2 μ)]) (dk okX9_badActSign 27 rfl) skX9_actLength lkX9_44 rfl rfl (Nat.le_of_ble_eq_true rfl) (by decide) (con_X9_actLength  ⟨_, rfl, ?_⟩)
      have K9 : J E G 3 mX9_badActSign Q 50 [(0, rf E 25), (1, .int x1), (2, .int (if ((x3 - x2) + 1) = (v_X9_actLength (v_X9_at x2 μ)) then (x3 + 1) else x2 : Int32)), (3, .int x3)] [] μ := by
        refine J_iinc (v := (x3 + 1)) (ls' := [(3, _), (0, _), (1, _), (2, _)]) (dk okX9_badActSign 33 rfl) 3 rfl rfl (by decide) rfl ?_
        refine J_goto (tgt := 14) (dk okX9_badActSign 34 rfl) (by decide) ?_
        exact J_sub [1, 2, 3, 0] rfl (kb x1 (if ((x3 - x2) + 1) = (v_X9_actLength (v_X9_at x2 μ)) then (x3 + 1) else x2 : Int32) (x3 + 1) (by unfold bd_X9_badActSign_14; first | (simp only [if_neg h1, if_neg h6]; done) | (simp only [if_neg h1, if_neg h6]; rfl) | rfl))
      refine J_icmp_ne (tgt := 50) (dk okX9_badActSign 28 rfl) (by decide) (fun h8 => ?_) (fun h8 => ?_)
      · refine J_sub (ls' := [(0, _), (1, _), (2, _), (3, _)]) [0, 1, 2, 3] rfl ?_
        (try simp only [if_neg h8] at K9 ⊢); exact K9
      · refine J_iload_n (dk okX9_badActSign 29 rfl) 3 rfl rfl ?_
        refine J_iconst (v := 1) (dk okX9_badActSign 30 rfl) (by decide) ?_
        refine J_iadd (dk okX9_badActSign 31 rfl) ?_
        refine J_istore_n (ls' := [(2, _), (0, _), (1, _), (3, _)]) (dk okX9_badActSign 32 rfl) rfl (by decide) rfl ?_
        refine J_sub (ls' := [(0, _), (1, _), (2, _), (3, _)]) [1, 2, 0, 3] rfl ?_
        (try simp only [if_pos h8] at K9 ⊢); exact K9
    · refine J_iload_n (dk okX9_badActSign 17 rfl) 3 rfl rfl ?_
      exact J_iret (dk okX9_badActSign 18 rfl) rfl (kx x3 (by unfold bd_X9_badActSign_14; first | (simp only [if_neg h1, if_pos h6]; done) | (simp only [if_neg h1, if_pos h6]; rfl) | rfl))
/-- VotingFloor$Text.badActSign()I -/
noncomputable def v_X9_badActSign  (μ : Mm) : Int32 := (whl (fun s : Int32 × Int32 × Int32 => bd_X9_badActSign_14  μ s.1 s.2.1 s.2.2) (fun _ : Int32 × Int32 × Int32 => 0) FU ((if 60 < (μ.1 25 1) then 60 else (μ.1 25 1)), 0, 0))
def p_X9_badActSign   (μ : Mm) : Prop := whP (fun s : Int32 × Int32 × Int32 => bd_X9_badActSign_14  μ s.1 s.2.1 s.2.2) (fun s : Int32 × Int32 × Int32 => sd_X9_badActSign_14   μ s.1 s.2.1 s.2.2) FU ((if 60 < (μ.1 25 1) then 60 else (μ.1 25 1)), 0, 0)
set_option maxRecDepth 20000 in
set_option maxHeartbeats 4000000 in
theorem con_X9_badActSign {E : Ex} {Q : Option Value → Mm → Prop} {μ : Mm} (t : p_X9_badActSign   μ) (k : Q (some (.int (v_X9_badActSign  μ))) μ) : Con E 3 mX9_badActSign [rf E 25] μ Q := by
  refine Con_J (by decide +kernel) (Nat.le_of_ble_eq_true rfl) (fun G => ?_)
  unfold v_X9_badActSign at k
  unfold p_X9_badActSign at t
  refine J_sub (ls' := [(0, rf E 25)]) [0] rfl ?_
  refine J_aload_n (dk okX9_badActSign 0 rfl) 0 rfl rfl ?_
  refine J_getI (dk okX9_badActSign 1 rfl) kfX9_15 ds_25 rfl ?_
  refine J_bipush (v := 60) (dk okX9_badActSign 2 rfl) (by decide) ?_
  refine J_mmin (dk okX9_badActSign 3 rfl) lkX9_27 mk_min_s mk_Math mk_min_c (by decide) (Nat.le_of_ble_eq_true rfl) ?_
  refine J_istore_n (ls' := [(1, _), (0, _)]) (dk okX9_badActSign 4 rfl) rfl (by decide) rfl ?_
  refine J_iconst (v := 0) (dk okX9_badActSign 5 rfl) (by decide) ?_
  refine J_istore_n (ls' := [(2, _), (1, _), (0, _)]) (dk okX9_badActSign 6 rfl) rfl (by decide) rfl ?_
  refine J_iconst (v := 0) (dk okX9_badActSign 7 rfl) (by decide) ?_
  refine J_istore_n (ls' := [(3, _), (2, _), (1, _), (0, _)]) (dk okX9_badActSign 8 rfl) rfl (by decide) rfl ?_
  have s1 := t
  refine J_sub (ls' := [(0, _), (1, _), (2, _), (3, _)]) [3, 2, 1, 0] rfl ?_
  exact lw_X9_badActSign_14  s1 k
noncomputable def bd_X9_badLineSign_21  (μ : Mm) (x1 : Int32) (x2 : Int32) (x3 : Int32) : (Int32 × Int32 × Int32) ⊕ (Int32) := (if x2 ≤ x3 then .inr (if x2 < (μ.1 25 1) then x2 else (if (x2 - x2 / 4 * 4) = 3 then (-1) else x2 : Int32) : Int32) else (if (v_X9_standsInLine x3 x1 μ) = 0 then .inr x3 else .inl (x1, x2, (x3 + 1))))
def sd_X9_badLineSign_21   (μ : Mm) (x1 : Int32) (x2 : Int32) (x3 : Int32) : Prop := (¬ (x2 ≤ x3) → p_X9_standsInLine x3 x1 μ)
set_option maxRecDepth 20000 in
set_option maxHeartbeats 4000000 in
theorem lw_X9_badLineSign_21 {E : Ex} {G : Gx} {Q : Option Value → Mm → Prop} {x1 : Int32} {x2 : Int32} {x3 : Int32} {μ : Mm}  (p : whP (fun s : Int32 × Int32 × Int32 => bd_X9_badLineSign_21  μ s.1 s.2.1 s.2.2) (fun s : Int32 × Int32 × Int32 => sd_X9_badLineSign_21   μ s.1 s.2.1 s.2.2) FU (x1, x2, x3)) (k : Q (some (.int (whl (fun s : Int32 × Int32 × Int32 => bd_X9_badLineSign_21  μ s.1 s.2.1 s.2.2) (fun _ : Int32 × Int32 × Int32 => 0) FU (x1, x2, x3)))) μ) : J E G 3 mX9_badLineSign Q 21 [(0, rf E 25), (1, .int x1), (2, .int x2), (3, .int x3)] [] μ := by
  refine J_whl (f := (fun s : Int32 × Int32 × Int32 => bd_X9_badLineSign_21  μ s.1 s.2.1 s.2.2)) (dd := (fun _ : Int32 × Int32 × Int32 => 0)) (sd := (fun s : Int32 × Int32 × Int32 => sd_X9_badLineSign_21   μ s.1 s.2.1 s.2.2)) (P := fun s : Int32 × Int32 × Int32 => J E G 3 mX9_badLineSign Q 21 [(0, rf E 25), (1, .int (s.1)), (2, .int (s.2.1)), (3, .int (s.2.2))] [] (μ)) (R := fun r : Int32 => Q (some (.int (r))) μ) ?_ FU (x1, x2, x3) p k
  clear p k
  rintro ⟨x1, x2, x3⟩ t k1 k2
  dsimp only [sd_X9_badLineSign_21] at t
  have kb : ∀ (y1 : Int32) (y2 : Int32) (y3 : Int32) , bd_X9_badLineSign_21  μ x1 x2 x3 = .inl (y1, y2, y3) → J E G 3 mX9_badLineSign Q 21 [(0, rf E 25), (1, .int y1), (2, .int y2), (3, .int y3)] [] μ := fun y1 y2 y3  h => k1 (y1, y2, y3) h
  have kx : ∀ (y : Int32), bd_X9_badLineSign_21  μ x1 x2 x3 = .inr y → Q (some (.int y)) μ := fun y h => k2 y h
  clear k1 k2
  refine J_iload_n (dk okX9_badLineSign 12 rfl) 3 rfl rfl ?_
  refine J_iload_n (dk okX9_badLineSign 13 rfl) 2 rfl rfl ?_
  refine J_icmp_ge (tgt := 43) (dk okX9_badLineSign 14 rfl) (by decide) (fun h1 => ?_) (fun h1 => ?_)
  · refine J_aload_n (dk okX9_badLineSign 24 rfl) 0 rfl rfl ?_
    refine J_getI (dk okX9_badLineSign 25 rfl) kfX9_15 ds_25 rfl ?_
    refine J_iload_n (dk okX9_badLineSign 26 rfl) 2 rfl rfl ?_
    have K4 : J E G 3 mX9_badLineSign Q 63 [] [.int (if x2 < (μ.1 25 1) then x2 else (if (x2 - x2 / 4 * 4) = 3 then (-1) else x2 : Int32) : Int32)] μ := by
      exact J_iret (dk okX9_badLineSign 36 rfl) rfl (kx (if x2 < (μ.1 25 1) then x2 else (if (x2 - x2 / 4 * 4) = 3 then (-1) else x2 : Int32) : Int32) (by unfold bd_X9_badLineSign_21; first | (simp only [if_pos h1]; done) | (simp only [if_pos h1]; rfl) | rfl))
    refine J_icmp_gt (tgt := 58) (dk okX9_badLineSign 27 rfl) (by decide) (fun h2 => ?_) (fun h2 => ?_)
    · refine J_iload_n (dk okX9_badLineSign 33 rfl) 2 rfl rfl ?_
      refine J_goto (tgt := 63) (dk okX9_badLineSign 34 rfl) (by decide) ?_
      refine J_sub (ls' := []) [] rfl ?_
      (try simp only [if_pos h2] at K4 ⊢); exact K4
    · refine J_iload_n (dk okX9_badLineSign 28 rfl) 2 rfl rfl ?_
      refine J_iconst (v := 4) (dk okX9_badLineSign 29 rfl) (by decide) ?_
      refine J_irem (dk okX9_badLineSign 30 rfl) (by decide) ?_
      refine J_iconst (v := 3) (dk okX9_badLineSign 31 rfl) (by decide) ?_
      refine J_icmp_eq (tgt := 62) (dk okX9_badLineSign 32 rfl) (by decide) (fun h3 => ?_) (fun h3 => ?_)
      · refine J_iconst (v := (-1)) (dk okX9_badLineSign 35 rfl) (by decide) ?_
        refine J_sub (ls' := []) [] rfl ?_
        (try simp only [if_neg h2, if_pos h3] at K4 ⊢); exact K4
      · refine J_iload_n (dk okX9_badLineSign 33 rfl) 2 rfl rfl ?_
        refine J_goto (tgt := 63) (dk okX9_badLineSign 34 rfl) (by decide) ?_
        refine J_sub (ls' := []) [] rfl ?_
        (try simp only [if_neg h2, if_neg h3] at K4 ⊢); exact K4
  · have t := t h1
    refine J_aload_n (dk okX9_badLineSign 15 rfl) 0 rfl rfl ?_
    refine J_iload_n (dk okX9_badLineSign 16 rfl) 3 rfl rfl ?_
    refine J_iload_n (dk okX9_badLineSign 17 rfl) 1 rfl rfl ?_
    have s5 := t
    refine J_callVi (As := [.int x3, .int x1]) (dk okX9_badLineSign 18 rfl) ds_25 rfl vkX9_standsInLine lkX9_33 rfl rfl (Nat.le_of_ble_eq_true rfl) (by decide) (con_X9_standsInLine s5 ⟨_, rfl, ?_⟩)
    refine J_if_ne (tgt := 37) (dk okX9_badLineSign 19 rfl) (by decide) (fun h6 => ?_) (fun h6 => ?_)
    · refine J_iinc (v := (x3 + 1)) (ls' := [(3, _), (0, _), (1, _), (2, _)]) (dk okX9_badLineSign 22 rfl) 3 rfl rfl (by decide) rfl ?_
      refine J_goto (tgt := 21) (dk okX9_badLineSign 23 rfl) (by decide) ?_
      exact J_sub [1, 2, 3, 0] rfl (kb x1 x2 (x3 + 1) (by unfold bd_X9_badLineSign_21; first | (simp only [if_neg h1, if_neg h6]; done) | (simp only [if_neg h1, if_neg h6]; rfl) | rfl))
    · refine J_iload_n (dk okX9_badLineSign 20 rfl) 3 rfl rfl ?_
      exact J_iret (dk okX9_badLineSign 21 rfl) rfl (kx x3 (by unfold bd_X9_badLineSign_21; first | (simp only [if_neg h1, if_pos h6]; done) | (simp only [if_neg h1, if_pos h6]; rfl) | rfl))
/-- VotingFloor$Text.badLineSign(I)I -/
noncomputable def v_X9_badLineSign (p0 : Int32) (μ : Mm) : Int32 := (if (μ.1 25 1) = 0 then (-1) else (whl (fun s : Int32 × Int32 × Int32 => bd_X9_badLineSign_21  μ s.1 s.2.1 s.2.2) (fun _ : Int32 × Int32 × Int32 => 0) FU (p0, (if 27 < (μ.1 25 1) then 27 else (μ.1 25 1)), 0)))
def p_X9_badLineSign (p0 : Int32)  (μ : Mm) : Prop := (¬ ((μ.1 25 1) = 0) → whP (fun s : Int32 × Int32 × Int32 => bd_X9_badLineSign_21  μ s.1 s.2.1 s.2.2) (fun s : Int32 × Int32 × Int32 => sd_X9_badLineSign_21   μ s.1 s.2.1 s.2.2) FU (p0, (if 27 < (μ.1 25 1) then 27 else (μ.1 25 1)), 0))
set_option maxRecDepth 20000 in
set_option maxHeartbeats 4000000 in
theorem con_X9_badLineSign {E : Ex} {Q : Option Value → Mm → Prop} {p0 : Int32} {μ : Mm} (t : p_X9_badLineSign p0  μ) (k : Q (some (.int (v_X9_badLineSign p0 μ))) μ) : Con E 3 mX9_badLineSign [rf E 25, .int p0] μ Q := by
  refine Con_J (by decide +kernel) (Nat.le_of_ble_eq_true rfl) (fun G => ?_)
  unfold v_X9_badLineSign at k
  unfold p_X9_badLineSign at t
  refine J_sub (ls' := [(0, rf E 25), (1, .int p0)]) [0, 1] rfl ?_
  refine J_aload_n (dk okX9_badLineSign 0 rfl) 0 rfl rfl ?_
  refine J_getI (dk okX9_badLineSign 1 rfl) kfX9_15 ds_25 rfl ?_
  refine J_if_ne (tgt := 9) (dk okX9_badLineSign 2 rfl) (by decide) (fun h1 => ?_) (fun h1 => ?_)
  · have t := t h1
    refine J_aload_n (dk okX9_badLineSign 5 rfl) 0 rfl rfl ?_
    refine J_getI (dk okX9_badLineSign 6 rfl) kfX9_15 ds_25 rfl ?_
    refine J_bipush (v := 27) (dk okX9_badLineSign 7 rfl) (by decide) ?_
    refine J_mmin (dk okX9_badLineSign 8 rfl) lkX9_27 mk_min_s mk_Math mk_min_c (by decide) (Nat.le_of_ble_eq_true rfl) ?_
    refine J_istore_n (ls' := [(2, _), (0, _), (1, _)]) (dk okX9_badLineSign 9 rfl) rfl (by decide) rfl ?_
    refine J_iconst (v := 0) (dk okX9_badLineSign 10 rfl) (by decide) ?_
    refine J_istore_n (ls' := [(3, _), (2, _), (0, _), (1, _)]) (dk okX9_badLineSign 11 rfl) rfl (by decide) rfl ?_
    have s2 := t
    refine J_sub (ls' := [(0, _), (1, _), (2, _), (3, _)]) [2, 3, 1, 0] rfl ?_
    (try simp only [if_neg h1] at k ⊢)
    exact lw_X9_badLineSign_21  s2 k
  · refine J_iconst (v := (-1)) (dk okX9_badLineSign 3 rfl) (by decide) ?_
    (try simp only [if_pos h1] at k ⊢)
    exact J_iret (dk okX9_badLineSign 4 rfl) rfl k
/-- java/lang/String.indexOf(I)I -/
noncomputable def v_J0_indexOf_0f7a4 (b : Nat) (p0 : Int32) (μ : Mm) : Int32 := (v_J0_indexOf_7cf53 b p0 0 μ)
def p_J0_indexOf_0f7a4 (b : Nat) (p0 : Int32)  (μ : Mm) : Prop := p_J0_indexOf_7cf53 b p0 0 μ
set_option maxRecDepth 20000 in
set_option maxHeartbeats 4000000 in
theorem con_J0_indexOf_0f7a4 {E : Ex} {Q : Option Value → Mm → Prop} {b : Nat} {p0 : Int32} {μ : Mm} (hb : b < strN) (t : p_J0_indexOf_0f7a4 b p0  μ) (k : Q (some (.int (v_J0_indexOf_0f7a4 b p0 μ))) μ) : Con E 4 mJ0_indexOf_0f7a4 [sf E b, .int p0] μ Q := by
  refine Con_J (by decide +kernel) (Nat.le_of_ble_eq_true rfl) (fun G => ?_)
  unfold v_J0_indexOf_0f7a4 at k
  unfold p_J0_indexOf_0f7a4 at t
  refine J_sub (ls' := [(0, sf E b), (1, .int p0)]) [0, 1] rfl ?_
  refine J_aload_nS (dk okJ0_indexOf_0f7a4 0 rfl) 0 rfl rfl ?_
  refine J_iload_n (dk okJ0_indexOf_0f7a4 1 rfl) 1 rfl rfl ?_
  refine J_iconst (v := 0) (dk okJ0_indexOf_0f7a4 2 rfl) (by decide) ?_
  have s1 := t
  refine J_callVSi (As := [.int p0, .int 0]) (dk okJ0_indexOf_0f7a4 3 rfl) hb vkJ0_indexOf_7cf53 lkJ0_633 rfl rfl (Nat.le_of_ble_eq_true rfl) (by decide) (con_J0_indexOf_7cf53 hb s1 ⟨_, rfl, ?_⟩)
  exact J_iret (dk okJ0_indexOf_0f7a4 4 rfl) rfl k
noncomputable def bd_X11_backs_26  (x1 : Int32) (x2 : Int32) (x3 : Int32) (μ : Mm) : (Int32 × Int32 × Int32 × Mm) ⊕ (Int32 × Int32 × Mm) := (if (μ.1 1 0) ≤ x3 then .inr (x1, x2, μ) else (let μ11 : Mm := (if (v_X1_areBackToBack 1 x2 x3 μ) = 0 then μ else ((if x1 = 0 then ((e_X10_add (Int32.toInt64 x3) ((e_X10_add (Int32.toInt64 x2) μ)))) else μ : Mm)) : Mm); .inl ((if (v_X1_areBackToBack 1 x2 x3 μ) = 0 then x1 else (x1 + 1) : Int32), x2, (x3 + 1), μ11)))
def sd_X11_backs_26   (x1 : Int32) (x2 : Int32) (x3 : Int32) (μ : Mm) : Prop := (¬ ((μ.1 1 0) ≤ x3) → (p_X1_areBackToBack 1 x2 x3 μ) ∧ (¬ ((v_X1_areBackToBack 1 x2 x3 μ) = 0) → (x1 = 0 → (p_X10_add (Int32.toInt64 x2) μ) ∧ (∀ μ6 : Mm, μ6 = (e_X10_add (Int32.toInt64 x2) μ) → p_X10_add (Int32.toInt64 x3) μ6))))
set_option maxRecDepth 20000 in
set_option maxHeartbeats 4000000 in
theorem lw_X11_backs_26 {E : Ex} {G : Gx} {Q : Option Value → Mm → Prop} {x1 : Int32} {x2 : Int32} {x3 : Int32} {μ : Mm}  (p : whP (fun s : Int32 × Int32 × Int32 × Mm => bd_X11_backs_26  s.1 s.2.1 s.2.2.1 s.2.2.2) (fun s : Int32 × Int32 × Int32 × Mm => sd_X11_backs_26   s.1 s.2.1 s.2.2.1 s.2.2.2) FU (x1, x2, x3, μ)) (k : ∀ r : Int32 × Int32 × Mm, r = whl (fun s : Int32 × Int32 × Int32 × Mm => bd_X11_backs_26  s.1 s.2.1 s.2.2.1 s.2.2.2) (fun s : Int32 × Int32 × Int32 × Mm => (0, 0, s.2.2.2)) FU (x1, x2, x3, μ) → J E G 4 mX11_backs Q 80 [(0, rf E 0), (1, .int (r.1)), (2, .int (r.2.1))] [] (r.2.2)) : J E G 4 mX11_backs Q 26 [(0, rf E 0), (1, .int x1), (2, .int x2), (3, .int x3)] [] μ := by
  refine J_whl (f := (fun s : Int32 × Int32 × Int32 × Mm => bd_X11_backs_26  s.1 s.2.1 s.2.2.1 s.2.2.2)) (dd := (fun s : Int32 × Int32 × Int32 × Mm => (0, 0, s.2.2.2))) (sd := (fun s : Int32 × Int32 × Int32 × Mm => sd_X11_backs_26   s.1 s.2.1 s.2.2.1 s.2.2.2)) (P := fun s : Int32 × Int32 × Int32 × Mm => J E G 4 mX11_backs Q 26 [(0, rf E 0), (1, .int (s.1)), (2, .int (s.2.1)), (3, .int (s.2.2.1))] [] (s.2.2.2)) (R := fun r : Int32 × Int32 × Mm => J E G 4 mX11_backs Q 80 [(0, rf E 0), (1, .int (r.1)), (2, .int (r.2.1))] [] (r.2.2)) ?_ FU (x1, x2, x3, μ) p (k _ rfl)
  clear p k
  rintro ⟨x1, x2, x3, μ⟩ t k1 k2
  dsimp only [sd_X11_backs_26] at t
  have kb : ∀ (y1 : Int32) (y2 : Int32) (y3 : Int32) (μ9 : Mm), bd_X11_backs_26  x1 x2 x3 μ = .inl (y1, y2, y3, μ9) → J E G 4 mX11_backs Q 26 [(0, rf E 0), (1, .int y1), (2, .int y2), (3, .int y3)] [] μ9 := fun y1 y2 y3 μ9 h => k1 (y1, y2, y3, μ9) h
  have kx : ∀ (y1 : Int32) (y2 : Int32) (μ9 : Mm), bd_X11_backs_26  x1 x2 x3 μ = .inr (y1, y2, μ9) → J E G 4 mX11_backs Q 80 [(0, rf E 0), (1, .int y1), (2, .int y2)] [] μ9 := fun y1 y2 μ9 h => k2 (y1, y2, μ9) h
  clear k1 k2
  refine J_iload_n (dk okX11_backs 16 rfl) 3 rfl rfl ?_
  refine J_aload_n (dk okX11_backs 17 rfl) 0 rfl rfl ?_
  refine J_getR (dk okX11_backs 18 rfl) kfX11_12 ds_0 rfl ?_
  refine J_getI (dk okX11_backs 19 rfl) kfX11_106 ds_1 rfl ?_
  refine J_icmp_ge (tgt := 80) (dk okX11_backs 20 rfl) (by decide) (fun h1 => ?_) (fun h1 => ?_)
  · exact J_sub [0, 1, 2] rfl (kx x1 x2 μ (by unfold bd_X11_backs_26; first | (simp only [if_pos h1]; done) | (simp only [if_pos h1]; rfl) | rfl))
  · have t := t h1
    refine J_aload_n (dk okX11_backs 21 rfl) 0 rfl rfl ?_
    refine J_getR (dk okX11_backs 22 rfl) kfX11_12 ds_0 rfl ?_
    refine J_iload_n (dk okX11_backs 23 rfl) 2 rfl rfl ?_
    refine J_iload_n (dk okX11_backs 24 rfl) 3 rfl rfl ?_
    obtain ⟨s2, t⟩ := t
    refine J_callVi (As := [.int x2, .int x3]) (dk okX11_backs 25 rfl) ds_1 rfl vkX1_areBackToBack lkX11_329 rfl rfl (Nat.le_of_ble_eq_true rfl) (by decide) (con_X1_areBackToBack FloorAt_1 s2 ⟨_, rfl, ?_⟩)
    have K12 : J E G 4 mX11_backs Q 74 [(0, rf E 0), (1, .int (if (v_X1_areBackToBack 1 x2 x3 μ) = 0 then x1 else (x1 + 1) : Int32)), (2, .int x2), (3, .int x3)] [] (if (v_X1_areBackToBack 1 x2 x3 μ) = 0 then μ else ((if x1 = 0 then ((e_X10_add (Int32.toInt64 x3) ((e_X10_add (Int32.toInt64 x2) μ)))) else μ : Mm)) : Mm) := by
      refine J_nm (fun μ11 eμ11 => ?_)
      refine J_iinc (v := (x3 + 1)) (ls' := [(3, _), (0, _), (1, _), (2, _)]) (dk okX11_backs 40 rfl) 3 rfl rfl (by decide) rfl ?_
      refine J_goto (tgt := 26) (dk okX11_backs 41 rfl) (by decide) ?_
      exact J_sub [1, 2, 3, 0] rfl (kb (if (v_X1_areBackToBack 1 x2 x3 μ) = 0 then x1 else (x1 + 1) : Int32) x2 (x3 + 1) μ11 (by subst eμ11; unfold bd_X11_backs_26; first | (simp only [if_neg h1]; done) | (simp only [if_neg h1]; rfl) | rfl))
    refine J_if_eq (tgt := 74) (dk okX11_backs 26 rfl) (by decide) (fun h3 => ?_) (fun h3 => ?_)
    · refine J_sub (ls' := [(0, _), (1, _), (2, _), (3, _)]) [0, 1, 2, 3] rfl ?_
      (try simp only [if_pos h3] at K12 ⊢); exact K12
    · have t := t h3
      refine J_iload_n (dk okX11_backs 27 rfl) 1 rfl rfl ?_
      have K10 : J E G 4 mX11_backs Q 71 [(0, rf E 0), (1, .int x1), (2, .int x2), (3, .int x3)] [] (if x1 = 0 then ((e_X10_add (Int32.toInt64 x3) ((e_X10_add (Int32.toInt64 x2) μ)))) else μ : Mm) := by
        refine J_nm (fun μ9 eμ9 => ?_)
        refine J_iinc (v := (x1 + 1)) (ls' := [(1, _), (0, _), (2, _), (3, _)]) (dk okX11_backs 39 rfl) 1 rfl rfl (by decide) rfl ?_
        subst eμ9
        refine J_sub (ls' := [(0, _), (1, _), (2, _), (3, _)]) [1, 0, 2, 3] rfl ?_
        (try simp only [if_neg h3] at K12 ⊢); exact K12
      refine J_if_ne (tgt := 71) (dk okX11_backs 28 rfl) (by decide) (fun h4 => ?_) (fun h4 => ?_)
      · refine J_sub (ls' := [(0, _), (1, _), (2, _), (3, _)]) [0, 1, 2, 3] rfl ?_
        (try simp only [if_neg h4] at K10 ⊢); exact K10
      · have t := t h4
        refine J_aload_n (dk okX11_backs 29 rfl) 0 rfl rfl ?_
        refine J_getR (dk okX11_backs 30 rfl) kfX11_39 ds_0 rfl ?_
        refine J_iload_n (dk okX11_backs 31 rfl) 2 rfl rfl ?_
        refine J_i2l (dk okX11_backs 32 rfl) ?_
        obtain ⟨s5, t⟩ := t
        refine J_callVv (As := [.long (Int32.toInt64 x2)]) (dk okX11_backs 33 rfl) ds_27 rfl vkX10_add lkX11_199 rfl rfl (Nat.le_of_ble_eq_true rfl) (by decide) (con_X10_add s5 ⟨rfl, ?_⟩)
        refine J_nm (fun μ6 eμ6 => ?_)
        have t := t μ6 eμ6
        refine J_aload_n (dk okX11_backs 34 rfl) 0 rfl rfl ?_
        refine J_getR (dk okX11_backs 35 rfl) kfX11_39 ds_0 rfl ?_
        refine J_iload_n (dk okX11_backs 36 rfl) 3 rfl rfl ?_
        refine J_i2l (dk okX11_backs 37 rfl) ?_
        have s7 := t
        refine J_callVv (As := [.long (Int32.toInt64 x3)]) (dk okX11_backs 38 rfl) ds_27 rfl vkX10_add lkX11_199 rfl rfl (Nat.le_of_ble_eq_true rfl) (by decide) (con_X10_add s7 ⟨rfl, ?_⟩)
        refine J_nm (fun μ8 eμ8 => ?_)
        subst eμ8 eμ6
        refine J_sub (ls' := [(0, _), (1, _), (2, _), (3, _)]) [0, 1, 2, 3] rfl ?_
        (try simp only [if_pos h4] at K10 ⊢); exact K10
noncomputable def bd_X11_backs_11  (x1 : Int32) (x2 : Int32) (μ : Mm) : (Int32 × Int32 × Mm) ⊕ (Int32 × Mm) := (if (μ.1 1 0) ≤ x2 then .inr (x1, μ) else (let r3 : Int32 × Int32 × Mm := whl (fun s : Int32 × Int32 × Int32 × Mm => bd_X11_backs_26  s.1 s.2.1 s.2.2.1 s.2.2.2) (fun s : Int32 × Int32 × Int32 × Mm => (0, 0, s.2.2.2)) FU (x1, x2, (x2 + 1), μ); .inl ((r3.1), ((r3.2.1) + 1), (r3.2.2))))
def sd_X11_backs_11   (x1 : Int32) (x2 : Int32) (μ : Mm) : Prop := (¬ ((μ.1 1 0) ≤ x2) → whP (fun s : Int32 × Int32 × Int32 × Mm => bd_X11_backs_26  s.1 s.2.1 s.2.2.1 s.2.2.2) (fun s : Int32 × Int32 × Int32 × Mm => sd_X11_backs_26   s.1 s.2.1 s.2.2.1 s.2.2.2) FU (x1, x2, (x2 + 1), μ))
set_option maxRecDepth 20000 in
set_option maxHeartbeats 4000000 in
theorem lw_X11_backs_11 {E : Ex} {G : Gx} {Q : Option Value → Mm → Prop} {x1 : Int32} {x2 : Int32} {μ : Mm}  (p : whP (fun s : Int32 × Int32 × Mm => bd_X11_backs_11  s.1 s.2.1 s.2.2) (fun s : Int32 × Int32 × Mm => sd_X11_backs_11   s.1 s.2.1 s.2.2) FU (x1, x2, μ)) (k : ∀ r : Int32 × Mm, r = whl (fun s : Int32 × Int32 × Mm => bd_X11_backs_11  s.1 s.2.1 s.2.2) (fun s : Int32 × Int32 × Mm => (0, s.2.2)) FU (x1, x2, μ) → J E G 4 mX11_backs Q 86 [(1, .int (r.1))] [] (r.2)) : J E G 4 mX11_backs Q 11 [(0, rf E 0), (1, .int x1), (2, .int x2)] [] μ := by
  refine J_whl (f := (fun s : Int32 × Int32 × Mm => bd_X11_backs_11  s.1 s.2.1 s.2.2)) (dd := (fun s : Int32 × Int32 × Mm => (0, s.2.2))) (sd := (fun s : Int32 × Int32 × Mm => sd_X11_backs_11   s.1 s.2.1 s.2.2)) (P := fun s : Int32 × Int32 × Mm => J E G 4 mX11_backs Q 11 [(0, rf E 0), (1, .int (s.1)), (2, .int (s.2.1))] [] (s.2.2)) (R := fun r : Int32 × Mm => J E G 4 mX11_backs Q 86 [(1, .int (r.1))] [] (r.2)) ?_ FU (x1, x2, μ) p (k _ rfl)
  clear p k
  rintro ⟨x1, x2, μ⟩ t k1 k2
  dsimp only [sd_X11_backs_11] at t
  have kb : ∀ (y1 : Int32) (y2 : Int32) (μ9 : Mm), bd_X11_backs_11  x1 x2 μ = .inl (y1, y2, μ9) → J E G 4 mX11_backs Q 11 [(0, rf E 0), (1, .int y1), (2, .int y2)] [] μ9 := fun y1 y2 μ9 h => k1 (y1, y2, μ9) h
  have kx : ∀ (y1 : Int32) (μ9 : Mm), bd_X11_backs_11  x1 x2 μ = .inr (y1, μ9) → J E G 4 mX11_backs Q 86 [(1, .int y1)] [] μ9 := fun y1 μ9 h => k2 (y1, μ9) h
  clear k1 k2
  refine J_iload_n (dk okX11_backs 7 rfl) 2 rfl rfl ?_
  refine J_aload_n (dk okX11_backs 8 rfl) 0 rfl rfl ?_
  refine J_getR (dk okX11_backs 9 rfl) kfX11_12 ds_0 rfl ?_
  refine J_getI (dk okX11_backs 10 rfl) kfX11_106 ds_1 rfl ?_
  refine J_icmp_ge (tgt := 86) (dk okX11_backs 11 rfl) (by decide) (fun h1 => ?_) (fun h1 => ?_)
  · exact J_sub [1] rfl (kx x1 μ (by unfold bd_X11_backs_11; first | (simp only [if_pos h1]; done) | (simp only [if_pos h1]; rfl) | rfl))
  · have t := t h1
    refine J_iload_n (dk okX11_backs 12 rfl) 2 rfl rfl ?_
    refine J_iconst (v := 1) (dk okX11_backs 13 rfl) (by decide) ?_
    refine J_iadd (dk okX11_backs 14 rfl) ?_
    refine J_istore_n (ls' := [(3, _), (0, _), (1, _), (2, _)]) (dk okX11_backs 15 rfl) rfl (by decide) rfl ?_
    have s2 := t
    refine J_sub (ls' := [(0, _), (1, _), (2, _), (3, _)]) [1, 2, 3, 0] rfl ?_
    refine lw_X11_backs_26  s2 (fun r3 er3 => ?_)
    refine J_iinc (v := ((r3.2.1) + 1)) (ls' := [(2, _), (0, _), (1, _)]) (dk okX11_backs 42 rfl) 2 rfl rfl (by decide) rfl ?_
    refine J_goto (tgt := 11) (dk okX11_backs 43 rfl) (by decide) ?_
    exact J_sub [1, 2, 0] rfl (kb (r3.1) ((r3.2.1) + 1) (r3.2.2) (by subst er3; unfold bd_X11_backs_11; first | (simp only [if_neg h1]; done) | (simp only [if_neg h1]; rfl) | rfl))
/-- VotingFloor.backs()I -/
noncomputable def v_X11_backs  (μ : Mm) : Int32 := (let μ1 : Mm := (e_X10_begin  μ); (let r3 : Int32 × Mm := whl (fun s : Int32 × Int32 × Mm => bd_X11_backs_11  s.1 s.2.1 s.2.2) (fun s : Int32 × Int32 × Mm => (0, s.2.2)) FU (0, 0, μ1); (r3.1)))
noncomputable def e_X11_backs  (μ : Mm) : Mm := (let μ1 : Mm := (e_X10_begin  μ); (let r3 : Int32 × Mm := whl (fun s : Int32 × Int32 × Mm => bd_X11_backs_11  s.1 s.2.1 s.2.2) (fun s : Int32 × Int32 × Mm => (0, s.2.2)) FU (0, 0, μ1); (r3.2)))
def p_X11_backs   (μ : Mm) : Prop := (∀ μ1 : Mm, μ1 = (e_X10_begin  μ) → whP (fun s : Int32 × Int32 × Mm => bd_X11_backs_11  s.1 s.2.1 s.2.2) (fun s : Int32 × Int32 × Mm => sd_X11_backs_11   s.1 s.2.1 s.2.2) FU (0, 0, μ1))
set_option maxRecDepth 20000 in
set_option maxHeartbeats 4000000 in
theorem con_X11_backs {E : Ex} {Q : Option Value → Mm → Prop} {μ : Mm} (t : p_X11_backs   μ) (k : Q (some (.int (v_X11_backs  μ))) (e_X11_backs  μ)) : Con E 4 mX11_backs [rf E 0] μ Q := by
  refine Con_J (by decide +kernel) (Nat.le_of_ble_eq_true rfl) (fun G => ?_)
  unfold v_X11_backs e_X11_backs at k
  unfold p_X11_backs at t
  refine J_sub (ls' := [(0, rf E 0)]) [0] rfl ?_
  refine J_aload_n (dk okX11_backs 0 rfl) 0 rfl rfl ?_
  refine J_getR (dk okX11_backs 1 rfl) kfX11_39 ds_0 rfl ?_
  refine J_callVv (As := []) (dk okX11_backs 2 rfl) ds_27 rfl vkX10_begin lkX11_196 rfl rfl (Nat.le_of_ble_eq_true rfl) (by decide) (con_X10_begin  ⟨rfl, ?_⟩)
  refine J_nm (fun μ1 eμ1 => ?_)
  have t := t μ1 eμ1
  refine J_iconst (v := 0) (dk okX11_backs 3 rfl) (by decide) ?_
  refine J_istore_n (ls' := [(1, _), (0, _)]) (dk okX11_backs 4 rfl) rfl (by decide) rfl ?_
  refine J_iconst (v := 0) (dk okX11_backs 5 rfl) (by decide) ?_
  refine J_istore_n (ls' := [(2, _), (1, _), (0, _)]) (dk okX11_backs 6 rfl) rfl (by decide) rfl ?_
  have s2 := t
  refine J_sub (ls' := [(0, _), (1, _), (2, _)]) [2, 1, 0] rfl ?_
  refine lw_X11_backs_11  s2 (fun r3 er3 => ?_)
  refine J_iload_n (dk okX11_backs 44 rfl) 0 rfl rfl ?_
  subst er3 eμ1
  exact J_iret (dk okX11_backs 45 rfl) rfl k
noncomputable def bd_X11_heads_9  (μ : Mm) (x1 : Int32) (x2 : Int32) (x3 : Int32) (x4 : Int32) : (Int32 × Int32 × Int32 × Int32) ⊕ (Int32 × Int32 × Int32) := (if (μ.1 1 0) ≤ x4 then .inr (x1, x2, x3) else .inl ((if (v_X1_isOff 1 x4 μ) = 0 then (x1 + (v_X11_direction (μ.1 3 (Int32.toNatClampNeg x4)))) else x1 : Int32), (if (v_X1_isOff 1 x4 μ) = 0 then (x2 + ((v_X11_direction (μ.1 3 (Int32.toNatClampNeg x4))) * (v_X1_load 1 x4 μ))) else x2 : Int32), (if (v_X1_isOff 1 x4 μ) = 0 then (x3 + (μ.1 3 (Int32.toNatClampNeg x4))) else x3 : Int32), (x4 + 1)))
def sd_X11_heads_9   (μ : Mm) (x1 : Int32) (x2 : Int32) (x3 : Int32) (x4 : Int32) : Prop := (¬ ((μ.1 1 0) ≤ x4) → ((v_X1_isOff 1 x4 μ) = 0 → (vp_in x4 7) ∧ (p_X1_load 1 x4 μ) ∧ vp_in x4 7))
set_option maxRecDepth 20000 in
set_option maxHeartbeats 4000000 in
theorem lw_X11_heads_9 {E : Ex} {G : Gx} {Q : Option Value → Mm → Prop} {x1 : Int32} {x2 : Int32} {x3 : Int32} {x4 : Int32} {μ : Mm}  (p : whP (fun s : Int32 × Int32 × Int32 × Int32 => bd_X11_heads_9  μ s.1 s.2.1 s.2.2.1 s.2.2.2) (fun s : Int32 × Int32 × Int32 × Int32 => sd_X11_heads_9   μ s.1 s.2.1 s.2.2.1 s.2.2.2) FU (x1, x2, x3, x4)) (k : ∀ r : Int32 × Int32 × Int32, r = whl (fun s : Int32 × Int32 × Int32 × Int32 => bd_X11_heads_9  μ s.1 s.2.1 s.2.2.1 s.2.2.2) (fun _ : Int32 × Int32 × Int32 × Int32 => (0, 0, 0)) FU (x1, x2, x3, x4) → J E G 4 mX11_heads Q 87 [(0, rf E 0), (1, .int (r.1)), (2, .int (r.2.1)), (3, .int (r.2.2))] [] μ) : J E G 4 mX11_heads Q 9 [(0, rf E 0), (1, .int x1), (2, .int x2), (3, .int x3), (4, .int x4)] [] μ := by
  refine J_whl (f := (fun s : Int32 × Int32 × Int32 × Int32 => bd_X11_heads_9  μ s.1 s.2.1 s.2.2.1 s.2.2.2)) (dd := (fun _ : Int32 × Int32 × Int32 × Int32 => (0, 0, 0))) (sd := (fun s : Int32 × Int32 × Int32 × Int32 => sd_X11_heads_9   μ s.1 s.2.1 s.2.2.1 s.2.2.2)) (P := fun s : Int32 × Int32 × Int32 × Int32 => J E G 4 mX11_heads Q 9 [(0, rf E 0), (1, .int (s.1)), (2, .int (s.2.1)), (3, .int (s.2.2.1)), (4, .int (s.2.2.2))] [] (μ)) (R := fun r : Int32 × Int32 × Int32 => J E G 4 mX11_heads Q 87 [(0, rf E 0), (1, .int (r.1)), (2, .int (r.2.1)), (3, .int (r.2.2))] [] μ) ?_ FU (x1, x2, x3, x4) p (k _ rfl)
  clear p k
  rintro ⟨x1, x2, x3, x4⟩ t k1 k2
  dsimp only [sd_X11_heads_9] at t
  have kb : ∀ (y1 : Int32) (y2 : Int32) (y3 : Int32) (y4 : Int32) , bd_X11_heads_9  μ x1 x2 x3 x4 = .inl (y1, y2, y3, y4) → J E G 4 mX11_heads Q 9 [(0, rf E 0), (1, .int y1), (2, .int y2), (3, .int y3), (4, .int y4)] [] μ := fun y1 y2 y3 y4  h => k1 (y1, y2, y3, y4) h
  have kx : ∀ (y1 : Int32) (y2 : Int32) (y3 : Int32) , bd_X11_heads_9  μ x1 x2 x3 x4 = .inr (y1, y2, y3) → J E G 4 mX11_heads Q 87 [(0, rf E 0), (1, .int y1), (2, .int y2), (3, .int y3)] [] μ := fun y1 y2 y3  h => k2 (y1, y2, y3) h
  clear k1 k2
  refine J_iload (dk okX11_heads 8 rfl) 4 rfl ?_
  refine J_aload_n (dk okX11_heads 9 rfl) 0 rfl rfl ?_
  refine J_getR (dk okX11_heads 10 rfl) kfX11_12 ds_0 rfl ?_
  refine J_getI (dk okX11_heads 11 rfl) kfX11_106 ds_1 rfl ?_
  refine J_icmp_ge (tgt := 87) (dk okX11_heads 12 rfl) (by decide) (fun h1 => ?_) (fun h1 => ?_)
  · exact J_sub [0, 1, 2, 3] rfl (kx x1 x2 x3 (by unfold bd_X11_heads_9; first | (simp only [if_pos h1]; done) | (simp only [if_pos h1]; rfl) | rfl))
  · have t := t h1
    refine J_aload_n (dk okX11_heads 13 rfl) 0 rfl rfl ?_
    refine J_getR (dk okX11_heads 14 rfl) kfX11_12 ds_0 rfl ?_
    refine J_iload (dk okX11_heads 15 rfl) 4 rfl ?_
    refine J_callVi (As := [.int x4]) (dk okX11_heads 16 rfl) ds_1 rfl vkX1_isOff lkX11_160 rfl rfl (Nat.le_of_ble_eq_true rfl) (by decide) (con_X1_isOff FloorAt_1 ⟨_, rfl, ?_⟩)
    have K6 : J E G 4 mX11_heads Q 81 [(0, rf E 0), (1, .int (if (v_X1_isOff 1 x4 μ) = 0 then (x1 + (v_X11_direction (μ.1 3 (Int32.toNatClampNeg x4)))) else x1 : Int32)), (2, .int (if (v_X1_isOff 1 x4 μ) = 0 then (x2 + ((v_X11_direction (μ.1 3 (Int32.toNatClampNeg x4))) * (v_X1_load 1 x4 μ))) else x2 : Int32)), (3, .int (if (v_X1_isOff 1 x4 μ) = 0 then (x3 + (μ.1 3 (Int32.toNatClampNeg x4))) else x3 : Int32)), (4, .int x4)] [] μ := by
      refine J_iinc (v := (x4 + 1)) (ls' := [(4, _), (0, _), (1, _), (2, _), (3, _)]) (dk okX11_heads 46 rfl) 4 rfl rfl (by decide) rfl ?_
      refine J_goto (tgt := 9) (dk okX11_heads 47 rfl) (by decide) ?_
      exact J_sub [1, 2, 3, 4, 0] rfl (kb (if (v_X1_isOff 1 x4 μ) = 0 then (x1 + (v_X11_direction (μ.1 3 (Int32.toNatClampNeg x4)))) else x1 : Int32) (if (v_X1_isOff 1 x4 μ) = 0 then (x2 + ((v_X11_direction (μ.1 3 (Int32.toNatClampNeg x4))) * (v_X1_load 1 x4 μ))) else x2 : Int32) (if (v_X1_isOff 1 x4 μ) = 0 then (x3 + (μ.1 3 (Int32.toNatClampNeg x4))) else x3 : Int32) (x4 + 1) (by unfold bd_X11_heads_9; first | (simp only [if_neg h1]; done) | (simp only [if_neg h1]; rfl) | rfl))
    refine J_if_ne (tgt := 81) (dk okX11_heads 17 rfl) (by decide) (fun h2 => ?_) (fun h2 => ?_)
    · refine J_sub (ls' := [(0, _), (1, _), (2, _), (3, _), (4, _)]) [0, 1, 2, 3, 4] rfl ?_
      (try simp only [if_neg h2] at K6 ⊢); exact K6
    · have t := t h2
      refine J_aload_n (dk okX11_heads 18 rfl) 0 rfl rfl ?_
      refine J_getR (dk okX11_heads 19 rfl) kfX11_12 ds_0 rfl ?_
      refine J_getR (dk okX11_heads 20 rfl) kfX11_151 ds_1 rfl ?_
      refine J_iload (dk okX11_heads 21 rfl) 4 rfl ?_
      obtain ⟨s3, t⟩ := t
      refine J_iald (dk okX11_heads 22 rfl) ds_3 s3 ?_
      refine J_callSi (As := [.int (μ.1 3 (Int32.toNatClampNeg x4))]) (dk okX11_heads 23 rfl) skX11_direction lkX11_256 rfl rfl (Nat.le_of_ble_eq_true rfl) (by decide) (con_X11_direction  ⟨_, rfl, ?_⟩)
      refine J_istore (ls' := [(5, _), (0, _), (1, _), (2, _), (3, _), (4, _)]) (dk okX11_heads 24 rfl) (by decide) rfl ?_
      refine J_iload_n (dk okX11_heads 25 rfl) 2 rfl rfl ?_
      refine J_iload (dk okX11_heads 26 rfl) 0 rfl ?_
      refine J_iadd (dk okX11_heads 27 rfl) ?_
      refine J_istore_n (ls' := [(1, _), (5, _), (0, _), (2, _), (3, _), (4, _)]) (dk okX11_heads 28 rfl) rfl (by decide) rfl ?_
      refine J_iload_n (dk okX11_heads 29 rfl) 3 rfl rfl ?_
      refine J_iload (dk okX11_heads 30 rfl) 1 rfl ?_
      refine J_aload_n (dk okX11_heads 31 rfl) 2 rfl rfl ?_
      refine J_getR (dk okX11_heads 32 rfl) kfX11_12 ds_0 rfl ?_
      refine J_iload (dk okX11_heads 33 rfl) 5 rfl ?_
      obtain ⟨s4, t⟩ := t
      refine J_callVi (As := [.int x4]) (dk okX11_heads 34 rfl) ds_1 rfl vkX1_load lkX11_285 rfl rfl (Nat.le_of_ble_eq_true rfl) (by decide) (con_X1_load FloorAt_1 s4 ⟨_, rfl, ?_⟩)
      refine J_imul (dk okX11_heads 35 rfl) ?_
      refine J_iadd (dk okX11_heads 36 rfl) ?_
      refine J_istore_n (ls' := [(2, _), (1, _), (5, _), (0, _), (3, _), (4, _)]) (dk okX11_heads 37 rfl) rfl (by decide) rfl ?_
      refine J_iload_n (dk okX11_heads 38 rfl) 4 rfl rfl ?_
      refine J_aload_n (dk okX11_heads 39 rfl) 3 rfl rfl ?_
      refine J_getR (dk okX11_heads 40 rfl) kfX11_12 ds_0 rfl ?_
      refine J_getR (dk okX11_heads 41 rfl) kfX11_151 ds_1 rfl ?_
      refine J_iload (dk okX11_heads 42 rfl) 5 rfl ?_
      have s5 := t
      refine J_iald (dk okX11_heads 43 rfl) ds_3 s5 ?_
      refine J_iadd (dk okX11_heads 44 rfl) ?_
      refine J_istore_n (ls' := [(3, _), (2, _), (1, _), (5, _), (0, _), (4, _)]) (dk okX11_heads 45 rfl) rfl (by decide) rfl ?_
      refine J_sub (ls' := [(0, _), (1, _), (2, _), (3, _), (4, _)]) [4, 2, 1, 0, 5] rfl ?_
      (try simp only [if_pos h2] at K6 ⊢); exact K6
/-- VotingFloor.heads()I -/
noncomputable def v_X11_heads  (μ : Mm) : Int32 := (let r2 : Int32 × Int32 × Int32 := whl (fun s : Int32 × Int32 × Int32 × Int32 => bd_X11_heads_9  μ s.1 s.2.1 s.2.2.1 s.2.2.2) (fun _ : Int32 × Int32 × Int32 × Int32 => (0, 0, 0)) FU (0, 0, 0, 0); (100 + (r2.1)))
noncomputable def e_X11_heads  (μ : Mm) : Mm := (let r2 : Int32 × Int32 × Int32 := whl (fun s : Int32 × Int32 × Int32 × Int32 => bd_X11_heads_9  μ s.1 s.2.1 s.2.2.1 s.2.2.2) (fun _ : Int32 × Int32 × Int32 × Int32 => (0, 0, 0)) FU (0, 0, 0, 0); (let μ3 : Mm := (e_X10_begin  μ); (let μ5 : Mm := (e_X10_add (Int32.toInt64 (1000 + (r2.2.1))) μ3); (let μ7 : Mm := (e_X10_add (Int32.toInt64 (1000 + (r2.2.2))) μ5); (let μ10 : Mm := (e_X10_add (Int32.toInt64 (10000 + (v_X1_care 1 μ7))) μ7); μ10)))))
def p_X11_heads   (μ : Mm) : Prop := (whP (fun s : Int32 × Int32 × Int32 × Int32 => bd_X11_heads_9  μ s.1 s.2.1 s.2.2.1 s.2.2.2) (fun s : Int32 × Int32 × Int32 × Int32 => sd_X11_heads_9   μ s.1 s.2.1 s.2.2.1 s.2.2.2) FU (0, 0, 0, 0)) ∧ (∀ r2 : Int32 × Int32 × Int32, r2 = whl (fun s : Int32 × Int32 × Int32 × Int32 => bd_X11_heads_9  μ s.1 s.2.1 s.2.2.1 s.2.2.2) (fun _ : Int32 × Int32 × Int32 × Int32 => (0, 0, 0)) FU (0, 0, 0, 0) → (∀ μ3 : Mm, μ3 = (e_X10_begin  μ) → (p_X10_add (Int32.toInt64 (1000 + (r2.2.1))) μ3) ∧ (∀ μ5 : Mm, μ5 = (e_X10_add (Int32.toInt64 (1000 + (r2.2.1))) μ3) → (p_X10_add (Int32.toInt64 (1000 + (r2.2.2))) μ5) ∧ (∀ μ7 : Mm, μ7 = (e_X10_add (Int32.toInt64 (1000 + (r2.2.2))) μ5) → (p_X1_care 1 μ7) ∧ p_X10_add (Int32.toInt64 (10000 + (v_X1_care 1 μ7))) μ7))))
set_option maxRecDepth 20000 in
set_option maxHeartbeats 4000000 in
theorem con_X11_heads {E : Ex} {Q : Option Value → Mm → Prop} {μ : Mm} (t : p_X11_heads   μ) (k : Q (some (.int (v_X11_heads  μ))) (e_X11_heads  μ)) : Con E 4 mX11_heads [rf E 0] μ Q := by
  refine Con_J (by decide +kernel) (Nat.le_of_ble_eq_true rfl) (fun G => ?_)
  unfold v_X11_heads e_X11_heads at k
  unfold p_X11_heads at t
  refine J_sub (ls' := [(0, rf E 0)]) [0] rfl ?_
  refine J_iconst (v := 0) (dk okX11_heads 0 rfl) (by decide) ?_
  refine J_istore_n (ls' := [(1, _), (0, _)]) (dk okX11_heads 1 rfl) rfl (by decide) rfl ?_
  refine J_iconst (v := 0) (dk okX11_heads 2 rfl) (by decide) ?_
  refine J_istore_n (ls' := [(2, _), (1, _), (0, _)]) (dk okX11_heads 3 rfl) rfl (by decide) rfl ?_
  refine J_iconst (v := 0) (dk okX11_heads 4 rfl) (by decide) ?_
  refine J_istore_n (ls' := [(3, _), (2, _), (1, _), (0, _)]) (dk okX11_heads 5 rfl) rfl (by decide) rfl ?_
  refine J_iconst (v := 0) (dk okX11_heads 6 rfl) (by decide) ?_
  refine J_istore (ls' := [(4, _), (3, _), (2, _), (1, _), (0, _)]) (dk okX11_heads 7 rfl) (by decide) rfl ?_
  obtain ⟨s1, t⟩ := t
  refine J_sub (ls' := [(0, _), (1, _), (2, _), (3, _), (4, _)]) [4, 3, 2, 1, 0] rfl ?_
  refine lw_X11_heads_9  s1 (fun r2 er2 => ?_)
  have t := t r2 er2
  refine J_aload_n (dk okX11_heads 48 rfl) 0 rfl rfl ?_
  refine J_getR (dk okX11_heads 49 rfl) kfX11_39 ds_0 rfl ?_
  refine J_callVv (As := []) (dk okX11_heads 50 rfl) ds_27 rfl vkX10_begin lkX11_196 rfl rfl (Nat.le_of_ble_eq_true rfl) (by decide) (con_X10_begin  ⟨rfl, ?_⟩)
  refine J_nm (fun μ3 eμ3 => ?_)
  have t := t μ3 eμ3
  refine J_aload_n (dk okX11_heads 51 rfl) 0 rfl rfl ?_
  refine J_getR (dk okX11_heads 52 rfl) kfX11_39 ds_0 rfl ?_
  refine J_sipush (v := 1000) (dk okX11_heads 53 rfl) (by decide) ?_
  refine J_iload_n (dk okX11_heads 54 rfl) 2 rfl rfl ?_
  refine J_iadd (dk okX11_heads 55 rfl) ?_
  refine J_i2l (dk okX11_heads 56 rfl) ?_
  obtain ⟨s4, t⟩ := t
  refine J_callVv (As := [.long (Int32.toInt64 (1000 + (r2.2.1)))]) (dk okX11_heads 57 rfl) ds_27 rfl vkX10_add lkX11_199 rfl rfl (Nat.le_of_ble_eq_true rfl) (by decide) (con_X10_add s4 ⟨rfl, ?_⟩)
  refine J_nm (fun μ5 eμ5 => ?_)
  have t := t μ5 eμ5
  refine J_aload_n (dk okX11_heads 58 rfl) 0 rfl rfl ?_
  refine J_getR (dk okX11_heads 59 rfl) kfX11_39 ds_0 rfl ?_
  refine J_sipush (v := 1000) (dk okX11_heads 60 rfl) (by decide) ?_
  refine J_iload_n (dk okX11_heads 61 rfl) 3 rfl rfl ?_
  refine J_iadd (dk okX11_heads 62 rfl) ?_
  refine J_i2l (dk okX11_heads 63 rfl) ?_
  obtain ⟨s6, t⟩ := t
  refine J_callVv (As := [.long (Int32.toInt64 (1000 + (r2.2.2)))]) (dk okX11_heads 64 rfl) ds_27 rfl vkX10_add lkX11_199 rfl rfl (Nat.le_of_ble_eq_true rfl) (by decide) (con_X10_add s6 ⟨rfl, ?_⟩)
  refine J_nm (fun μ7 eμ7 => ?_)
  have t := t μ7 eμ7
  refine J_aload_n (dk okX11_heads 65 rfl) 0 rfl rfl ?_
  refine J_getR (dk okX11_heads 66 rfl) kfX11_39 ds_0 rfl ?_
  refine J_sipush (v := 10000) (dk okX11_heads 67 rfl) (by decide) ?_
  refine J_aload_n (dk okX11_heads 68 rfl) 0 rfl rfl ?_
  refine J_getR (dk okX11_heads 69 rfl) kfX11_12 ds_0 rfl ?_
  obtain ⟨s8, t⟩ := t
  refine J_callVi (As := []) (dk okX11_heads 70 rfl) ds_1 rfl vkX1_care lkX11_305 rfl rfl (Nat.le_of_ble_eq_true rfl) (by decide) (con_X1_care FloorAt_1 s8 ⟨_, rfl, ?_⟩)
  refine J_iadd (dk okX11_heads 71 rfl) ?_
  refine J_i2l (dk okX11_heads 72 rfl) ?_
  have s9 := t
  refine J_callVv (As := [.long (Int32.toInt64 (10000 + (v_X1_care 1 μ7)))]) (dk okX11_heads 73 rfl) ds_27 rfl vkX10_add lkX11_199 rfl rfl (Nat.le_of_ble_eq_true rfl) (by decide) (con_X10_add s9 ⟨rfl, ?_⟩)
  refine J_nm (fun μ10 eμ10 => ?_)
  refine J_bipush (v := 100) (dk okX11_heads 74 rfl) (by decide) ?_
  refine J_iload_n (dk okX11_heads 75 rfl) 1 rfl rfl ?_
  refine J_iadd (dk okX11_heads 76 rfl) ?_
  subst eμ10 eμ7 eμ5 eμ3 er2
  exact J_iret (dk okX11_heads 77 rfl) rfl k

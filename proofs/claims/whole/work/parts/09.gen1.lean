noncomputable def bd_J1_indexOfChar_4cfef_7 (p0 : Nat) (μ : Mm) (x3 : Int32) (x4 : Int32) (x5 : Int32) : (Int32 × Int32 × Int32) ⊕ (Int32) := (if x3 ≤ x5 then .inr (-1) else (if ((strByt.getD p0 []).getD (Int32.toNatClampNeg x5) 0) = x4 then .inr x5 else .inl (x3, x4, (x5 + 1))))
def sd_J1_indexOfChar_4cfef_7 (p0 : Nat)  (μ : Mm) (x3 : Int32) (x4 : Int32) (x5 : Int32) : Prop := (¬ (x3 ≤ x5) → vp_in x5 (strLen.getD p0 0))
set_option maxRecDepth 20000 in
set_option maxHeartbeats 4000000 in
theorem lw_J1_indexOfChar_4cfef_7 {E : Ex} {G : Gx} {Q : Option Value → Mm → Prop} {p0 : Nat} {x3 : Int32} {x4 : Int32} {x5 : Int32} {μ : Mm} (hp0 : p0 < strN) (p : whP (fun s : Int32 × Int32 × Int32 => bd_J1_indexOfChar_4cfef_7 p0 μ s.1 s.2.1 s.2.2) (fun s : Int32 × Int32 × Int32 => sd_J1_indexOfChar_4cfef_7 p0  μ s.1 s.2.1 s.2.2) FU (x3, x4, x5)) (k : Q (some (.int (whl (fun s : Int32 × Int32 × Int32 => bd_J1_indexOfChar_4cfef_7 p0 μ s.1 s.2.1 s.2.2) (fun _ : Int32 × Int32 × Int32 => 0) FU (x3, x4, x5)))) μ) : J E G 1 mJ1_indexOfChar_4cfef Q 7 [(0, bf E p0), (3, .int x3), (4, .int x4), (5, .int x5)] [] μ := by
  refine J_whl (f := (fun s : Int32 × Int32 × Int32 => bd_J1_indexOfChar_4cfef_7 p0 μ s.1 s.2.1 s.2.2)) (dd := (fun _ : Int32 × Int32 × Int32 => 0)) (sd := (fun s : Int32 × Int32 × Int32 => sd_J1_indexOfChar_4cfef_7 p0  μ s.1 s.2.1 s.2.2)) (P := fun s : Int32 × Int32 × Int32 => J E G 1 mJ1_indexOfChar_4cfef Q 7 [(0, bf E p0), (3, .int (s.1)), (4, .int (s.2.1)), (5, .int (s.2.2))] [] (μ)) (R := fun r : Int32 => Q (some (.int (r))) μ) ?_ FU (x3, x4, x5) p k
  clear p k
  rintro ⟨x3, x4, x5⟩ t k1 k2
  dsimp only [sd_J1_indexOfChar_4cfef_7] at t
  have kb : ∀ (y3 : Int32) (y4 : Int32) (y5 : Int32) , bd_J1_indexOfChar_4cfef_7 p0 μ x3 x4 x5 = .inl (y3, y4, y5) → J E G 1 mJ1_indexOfChar_4cfef Q 7 [(0, bf E p0), (3, .int y3), (4, .int y4), (5, .int y5)] [] μ := fun y3 y4 y5  h => k1 (y3, y4, y5) h
  have kx : ∀ (y : Int32), bd_J1_indexOfChar_4cfef_7 p0 μ x3 x4 x5 = .inr y → Q (some (.int y)) μ := fun y h => k2 y h
  clear k1 k2
  refine J_iload (dk okJ1_indexOfChar_4cfef 5 rfl) 3 rfl ?_
  refine J_iload_n (dk okJ1_indexOfChar_4cfef 6 rfl) 1 rfl rfl ?_
  refine J_icmp_ge (tgt := 31) (dk okJ1_indexOfChar_4cfef 7 rfl) (by decide) (fun h1 => ?_) (fun h1 => ?_)
  · refine J_iconst (v := (-1)) (dk okJ1_indexOfChar_4cfef 17 rfl) (by decide) ?_
    exact J_iret (dk okJ1_indexOfChar_4cfef 18 rfl) rfl (kx (-1) (by unfold bd_J1_indexOfChar_4cfef_7; first | (simp only [if_pos h1]; done) | (simp only [if_pos h1]; rfl) | rfl))
  · have t := t h1
    refine J_aload_nB (dk okJ1_indexOfChar_4cfef 8 rfl) 0 rfl rfl ?_
    refine J_iload (dk okJ1_indexOfChar_4cfef 9 rfl) 3 rfl ?_
    have s2 := t
    refine J_bald (dk okJ1_indexOfChar_4cfef 10 rfl) hp0 s2 ?_
    refine J_iload (dk okJ1_indexOfChar_4cfef 11 rfl) 2 rfl ?_
    refine J_icmp_ne (tgt := 25) (dk okJ1_indexOfChar_4cfef 12 rfl) (by decide) (fun h3 => ?_) (fun h3 => ?_)
    · refine J_iinc (v := (x5 + 1)) (ls' := [(5, _), (0, _), (3, _), (4, _)]) (dk okJ1_indexOfChar_4cfef 15 rfl) 3 rfl rfl (by decide) rfl ?_
      refine J_goto (tgt := 7) (dk okJ1_indexOfChar_4cfef 16 rfl) (by decide) ?_
      exact J_sub [1, 2, 3, 0] rfl (kb x3 x4 (x5 + 1) (by unfold bd_J1_indexOfChar_4cfef_7; first | (simp only [if_neg h1, if_neg h3]; done) | (simp only [if_neg h1, if_neg h3]; rfl) | rfl))
    · refine J_iload (dk okJ1_indexOfChar_4cfef 13 rfl) 3 rfl ?_
      exact J_iret (dk okJ1_indexOfChar_4cfef 14 rfl) rfl (kx x5 (by unfold bd_J1_indexOfChar_4cfef_7; first | (simp only [if_neg h1, if_pos h3]; done) | (simp only [if_neg h1, if_pos h3]; rfl) | rfl))
/-- java/lang/StringLatin1.indexOfChar([BIII)I -/
noncomputable def v_J1_indexOfChar_4cfef (p0 : Nat) (p1 : Int32) (p2 : Int32) (p3 : Int32) (μ : Mm) : Int32 := (whl (fun s : Int32 × Int32 × Int32 => bd_J1_indexOfChar_4cfef_7 p0 μ s.1 s.2.1 s.2.2) (fun _ : Int32 × Int32 × Int32 => 0) FU (p3, (Int32.toInt8 p1).toInt32, p2))
def p_J1_indexOfChar_4cfef (p0 : Nat) (p1 : Int32) (p2 : Int32) (p3 : Int32)  (μ : Mm) : Prop := whP (fun s : Int32 × Int32 × Int32 => bd_J1_indexOfChar_4cfef_7 p0 μ s.1 s.2.1 s.2.2) (fun s : Int32 × Int32 × Int32 => sd_J1_indexOfChar_4cfef_7 p0  μ s.1 s.2.1 s.2.2) FU (p3, (Int32.toInt8 p1).toInt32, p2)
set_option maxRecDepth 20000 in
set_option maxHeartbeats 4000000 in
theorem con_J1_indexOfChar_4cfef {E : Ex} {Q : Option Value → Mm → Prop} {p0 : Nat} {p1 : Int32} {p2 : Int32} {p3 : Int32} {μ : Mm} (hp0 : p0 < strN) (t : p_J1_indexOfChar_4cfef p0 p1 p2 p3  μ) (k : Q (some (.int (v_J1_indexOfChar_4cfef p0 p1 p2 p3 μ))) μ) : Con E 1 mJ1_indexOfChar_4cfef [bf E p0, .int p1, .int p2, .int p3] μ Q := by
  refine Con_J (by decide +kernel) (Nat.le_of_ble_eq_true rfl) (fun G => ?_)
  unfold v_J1_indexOfChar_4cfef at k
  unfold p_J1_indexOfChar_4cfef at t
  refine J_sub (ls' := [(0, bf E p0), (1, .int p1), (2, .int p2), (3, .int p3)]) [0, 1, 2, 3] rfl ?_
  refine J_iload_n (dk okJ1_indexOfChar_4cfef 0 rfl) 1 rfl rfl ?_
  refine J_i2b (dk okJ1_indexOfChar_4cfef 1 rfl) ?_
  refine J_istore (ls' := [(4, _), (0, _), (1, _), (2, _), (3, _)]) (dk okJ1_indexOfChar_4cfef 2 rfl) (by decide) rfl ?_
  refine J_iload_n (dk okJ1_indexOfChar_4cfef 3 rfl) 3 rfl rfl ?_
  refine J_istore (ls' := [(5, _), (4, _), (0, _), (1, _), (2, _), (3, _)]) (dk okJ1_indexOfChar_4cfef 4 rfl) (by decide) rfl ?_
  have s1 := t
  refine J_sub (ls' := [(0, _), (3, _), (4, _), (5, _)]) [2, 5, 1, 0] rfl ?_
  exact lw_J1_indexOfChar_4cfef_7 hp0 s1 k
noncomputable def bd_X11_raised_5  (μ : Mm) (x0 : Int32) (x1 : Int32) (x2 : Int64) (x4 : Int32) : (Int32 × Int32 × Int64 × Int32) ⊕ (Int64) := (if x1 ≤ x4 then .inr x2 else .inl (x0, x1, (x2 * (Int32.toInt64 x0)), (x4 + 1)))
def sd_X11_raised_5   (μ : Mm) (x0 : Int32) (x1 : Int32) (x2 : Int64) (x4 : Int32) : Prop := True
set_option maxRecDepth 20000 in
set_option maxHeartbeats 4000000 in
theorem lw_X11_raised_5 {E : Ex} {G : Gx} {Q : Option Value → Mm → Prop} {x0 : Int32} {x1 : Int32} {x2 : Int64} {x4 : Int32} {μ : Mm}  (p : whP (fun s : Int32 × Int32 × Int64 × Int32 => bd_X11_raised_5  μ s.1 s.2.1 s.2.2.1 s.2.2.2) (fun s : Int32 × Int32 × Int64 × Int32 => sd_X11_raised_5   μ s.1 s.2.1 s.2.2.1 s.2.2.2) FU (x0, x1, x2, x4)) (k : ∀ r : Int64, r = whl (fun s : Int32 × Int32 × Int64 × Int32 => bd_X11_raised_5  μ s.1 s.2.1 s.2.2.1 s.2.2.2) (fun _ : Int32 × Int32 × Int64 × Int32 => 0) FU (x0, x1, x2, x4) → J E G 1 mX11_raised Q 22 [(2, .long r)] [] μ) : J E G 1 mX11_raised Q 5 [(0, .int x0), (1, .int x1), (2, .long x2), (4, .int x4)] [] μ := by
  refine J_whl (f := (fun s : Int32 × Int32 × Int64 × Int32 => bd_X11_raised_5  μ s.1 s.2.1 s.2.2.1 s.2.2.2)) (dd := (fun _ : Int32 × Int32 × Int64 × Int32 => 0)) (sd := (fun s : Int32 × Int32 × Int64 × Int32 => sd_X11_raised_5   μ s.1 s.2.1 s.2.2.1 s.2.2.2)) (P := fun s : Int32 × Int32 × Int64 × Int32 => J E G 1 mX11_raised Q 5 [(0, .int (s.1)), (1, .int (s.2.1)), (2, .long (s.2.2.1)), (4, .int (s.2.2.2))] [] (μ)) (R := fun r : Int64 => J E G 1 mX11_raised Q 22 [(2, .long r)] [] μ) ?_ FU (x0, x1, x2, x4) p (k _ rfl)
  clear p k
  rintro ⟨x0, x1, x2, x4⟩ t k1 k2
  dsimp only [sd_X11_raised_5] at t
  have kb : ∀ (y0 : Int32) (y1 : Int32) (y2 : Int64) (y4 : Int32) , bd_X11_raised_5  μ x0 x1 x2 x4 = .inl (y0, y1, y2, y4) → J E G 1 mX11_raised Q 5 [(0, .int y0), (1, .int y1), (2, .long y2), (4, .int y4)] [] μ := fun y0 y1 y2 y4  h => k1 (y0, y1, y2, y4) h
  have kx : ∀ (y2 : Int64) , bd_X11_raised_5  μ x0 x1 x2 x4 = .inr y2 → J E G 1 mX11_raised Q 22 [(2, .long y2)] [] μ := fun y2  h => k2 y2 h
  clear k1 k2
  refine J_iload (dk okX11_raised 4 rfl) 3 rfl ?_
  refine J_iload_n (dk okX11_raised 5 rfl) 1 rfl rfl ?_
  refine J_icmp_ge (tgt := 22) (dk okX11_raised 6 rfl) (by decide) (fun h1 => ?_) (fun h1 => ?_)
  · exact J_sub [2] rfl (kx x2 (by unfold bd_X11_raised_5; first | (simp only [if_pos h1]; done) | (simp only [if_pos h1]; rfl) | rfl))
  · refine J_lload_n (dk okX11_raised 7 rfl) 2 rfl rfl ?_
    refine J_iload_n (dk okX11_raised 8 rfl) 0 rfl rfl ?_
    refine J_i2l (dk okX11_raised 9 rfl) ?_
    refine J_lmul (dk okX11_raised 10 rfl) ?_
    refine J_lstore_n (ls' := [(2, _), (0, _), (1, _), (4, _)]) (dk okX11_raised 11 rfl) rfl (by decide) rfl ?_
    refine J_iinc (v := (x4 + 1)) (ls' := [(4, _), (2, _), (0, _), (1, _)]) (dk okX11_raised 12 rfl) 3 rfl rfl (by decide) rfl ?_
    refine J_goto (tgt := 5) (dk okX11_raised 13 rfl) (by decide) ?_
    exact J_sub [2, 3, 1, 0] rfl (kb x0 x1 (x2 * (Int32.toInt64 x0)) (x4 + 1) (by unfold bd_X11_raised_5; first | (simp only [if_neg h1]; done) | (simp only [if_neg h1]; rfl) | rfl))
/-- VotingFloor.raised(II)J -/
noncomputable def v_X11_raised (p0 : Int32) (p1 : Int32) (μ : Mm) : Int64 := (let r2 : Int64 := whl (fun s : Int32 × Int32 × Int64 × Int32 => bd_X11_raised_5  μ s.1 s.2.1 s.2.2.1 s.2.2.2) (fun _ : Int32 × Int32 × Int64 × Int32 => 0) FU (p0, p1, 1, 0); r2)
def p_X11_raised (p0 : Int32) (p1 : Int32)  (μ : Mm) : Prop := whP (fun s : Int32 × Int32 × Int64 × Int32 => bd_X11_raised_5  μ s.1 s.2.1 s.2.2.1 s.2.2.2) (fun s : Int32 × Int32 × Int64 × Int32 => sd_X11_raised_5   μ s.1 s.2.1 s.2.2.1 s.2.2.2) FU (p0, p1, 1, 0)
set_option maxRecDepth 20000 in
set_option maxHeartbeats 4000000 in
theorem con_X11_raised {E : Ex} {Q : Option Value → Mm → Prop} {p0 : Int32} {p1 : Int32} {μ : Mm} (t : p_X11_raised p0 p1  μ) (k : Q (some (.long (v_X11_raised p0 p1 μ))) μ) : Con E 1 mX11_raised [.int p0, .int p1] μ Q := by
  refine Con_J (by decide +kernel) (Nat.le_of_ble_eq_true rfl) (fun G => ?_)
  unfold v_X11_raised at k
  unfold p_X11_raised at t
  refine J_sub (ls' := [(0, .int p0), (1, .int p1)]) [0, 1] rfl ?_
  refine J_lconst (v := 1) (dk okX11_raised 0 rfl) (by decide) ?_
  refine J_lstore_n (ls' := [(2, _), (0, _), (1, _)]) (dk okX11_raised 1 rfl) rfl (by decide) rfl ?_
  refine J_iconst (v := 0) (dk okX11_raised 2 rfl) (by decide) ?_
  refine J_istore (ls' := [(4, _), (2, _), (0, _), (1, _)]) (dk okX11_raised 3 rfl) (by decide) rfl ?_
  have s1 := t
  refine J_sub (ls' := [(0, _), (1, _), (2, _), (4, _)]) [2, 3, 1, 0] rfl ?_
  refine lw_X11_raised_5  s1 (fun r2 er2 => ?_)
  refine J_lload_n (dk okX11_raised 14 rfl) 0 rfl rfl ?_
  subst er2
  exact J_lret (dk okX11_raised 15 rfl) rfl k
noncomputable def bd_X12_adds_21  (x1 : Int32) (x2 : Int32) (μ : Mm) : (Int32 × Int32 × Mm) ⊕ (Int32 × Mm) := (if 360 ≤ x2 then .inr (x1, μ) else (let μ4 : Mm := (upI μ 61 (Int32.toNatClampNeg x2) (μ.1 61 (Int32.toNatClampNeg (x2 + 24)))); .inl (x1, (x2 + 1), μ4)))
def sd_X12_adds_21   (x1 : Int32) (x2 : Int32) (μ : Mm) : Prop := (¬ (360 ≤ x2) → (vp_in (x2 + 24) 384) ∧ vp_in x2 384)
set_option maxRecDepth 20000 in
set_option maxHeartbeats 4000000 in
theorem lw_X12_adds_21 {E : Ex} {G : Gx} {Q : Option Value → Mm → Prop} {x1 : Int32} {x2 : Int32} {μ : Mm}  (p : whP (fun s : Int32 × Int32 × Mm => bd_X12_adds_21  s.1 s.2.1 s.2.2) (fun s : Int32 × Int32 × Mm => sd_X12_adds_21   s.1 s.2.1 s.2.2) FU (x1, x2, μ)) (k : ∀ r : Int32 × Mm, r = whl (fun s : Int32 × Int32 × Mm => bd_X12_adds_21  s.1 s.2.1 s.2.2) (fun s : Int32 × Int32 × Mm => (0, s.2.2)) FU (x1, x2, μ) → J E G 1 mX12_adds Q 49 [(0, rf E 49), (1, .int (r.1))] [] (r.2)) : J E G 1 mX12_adds Q 21 [(0, rf E 49), (1, .int x1), (2, .int x2)] [] μ := by
  refine J_whl (f := (fun s : Int32 × Int32 × Mm => bd_X12_adds_21  s.1 s.2.1 s.2.2)) (dd := (fun s : Int32 × Int32 × Mm => (0, s.2.2))) (sd := (fun s : Int32 × Int32 × Mm => sd_X12_adds_21   s.1 s.2.1 s.2.2)) (P := fun s : Int32 × Int32 × Mm => J E G 1 mX12_adds Q 21 [(0, rf E 49), (1, .int (s.1)), (2, .int (s.2.1))] [] (s.2.2)) (R := fun r : Int32 × Mm => J E G 1 mX12_adds Q 49 [(0, rf E 49), (1, .int (r.1))] [] (r.2)) ?_ FU (x1, x2, μ) p (k _ rfl)
  clear p k
  rintro ⟨x1, x2, μ⟩ t k1 k2
  dsimp only [sd_X12_adds_21] at t
  have kb : ∀ (y1 : Int32) (y2 : Int32) (μ9 : Mm), bd_X12_adds_21  x1 x2 μ = .inl (y1, y2, μ9) → J E G 1 mX12_adds Q 21 [(0, rf E 49), (1, .int y1), (2, .int y2)] [] μ9 := fun y1 y2 μ9 h => k1 (y1, y2, μ9) h
  have kx : ∀ (y1 : Int32) (μ9 : Mm), bd_X12_adds_21  x1 x2 μ = .inr (y1, μ9) → J E G 1 mX12_adds Q 49 [(0, rf E 49), (1, .int y1)] [] μ9 := fun y1 μ9 h => k2 (y1, μ9) h
  clear k1 k2
  refine J_iload_n (dk okX12_adds 12 rfl) 2 rfl rfl ?_
  refine J_sipush (v := 360) (dk okX12_adds 13 rfl) (by decide) ?_
  refine J_icmp_ge (tgt := 49) (dk okX12_adds 14 rfl) (by decide) (fun h1 => ?_) (fun h1 => ?_)
  · exact J_sub [0, 1] rfl (kx x1 μ (by unfold bd_X12_adds_21; first | (simp only [if_pos h1]; done) | (simp only [if_pos h1]; rfl) | rfl))
  · have t := t h1
    refine J_aload_n (dk okX12_adds 15 rfl) 0 rfl rfl ?_
    refine J_getR (dk okX12_adds 16 rfl) kfX12_59 ds_49 rfl ?_
    refine J_iload_n (dk okX12_adds 17 rfl) 2 rfl rfl ?_
    refine J_aload_n (dk okX12_adds 18 rfl) 0 rfl rfl ?_
    refine J_getR (dk okX12_adds 19 rfl) kfX12_59 ds_49 rfl ?_
    refine J_iload_n (dk okX12_adds 20 rfl) 2 rfl rfl ?_
    refine J_bipush (v := 24) (dk okX12_adds 21 rfl) (by decide) ?_
    refine J_iadd (dk okX12_adds 22 rfl) ?_
    obtain ⟨s2, t⟩ := t
    refine J_iald (dk okX12_adds 23 rfl) ds_61 s2 ?_
    have s3 := t
    refine J_iast (dk okX12_adds 24 rfl) ds_61 s3 ?_
    refine J_nm (fun μ4 eμ4 => ?_)
    refine J_iinc (v := (x2 + 1)) (ls' := [(2, _), (0, _), (1, _)]) (dk okX12_adds 25 rfl) 2 rfl rfl (by decide) rfl ?_
    refine J_goto (tgt := 21) (dk okX12_adds 26 rfl) (by decide) ?_
    exact J_sub [1, 2, 0] rfl (kb x1 (x2 + 1) μ4 (by subst eμ4; unfold bd_X12_adds_21; first | (simp only [if_neg h1]; done) | (simp only [if_neg h1]; rfl) | rfl))
/-- VotingFloorModel.adds(I)I -/
noncomputable def v_X12_adds (p0 : Int32) (μ : Mm) : Int32 := (let μ1 : Mm := (upI μ 49 23 ((μ.1 49 23) + 1)); (if (μ1.1 49 23) ≤ 15 then p0 else ((whl (fun s : Int32 × Int32 × Mm => bd_X12_adds_21  s.1 s.2.1 s.2.2) (fun s : Int32 × Int32 × Mm => (0, s.2.2)) FU (p0, 0, μ1)).1) : Int32))
noncomputable def e_X12_adds (p0 : Int32) (μ : Mm) : Mm := (let μ1 : Mm := (upI μ 49 23 ((μ.1 49 23) + 1)); (let μ6 : Mm := (if (μ1.1 49 23) ≤ 15 then μ1 else ((upI ((whl (fun s : Int32 × Int32 × Mm => bd_X12_adds_21  s.1 s.2.1 s.2.2) (fun s : Int32 × Int32 × Mm => (0, s.2.2)) FU (p0, 0, μ1)).2) 49 23 ((((whl (fun s : Int32 × Int32 × Mm => bd_X12_adds_21  s.1 s.2.1 s.2.2) (fun s : Int32 × Int32 × Mm => (0, s.2.2)) FU (p0, 0, μ1)).2).1 49 23) - 1))) : Mm); μ6))
def p_X12_adds (p0 : Int32)  (μ : Mm) : Prop := (∀ μ1 : Mm, μ1 = (upI μ 49 23 ((μ.1 49 23) + 1)) → (¬ ((μ1.1 49 23) ≤ 15) → whP (fun s : Int32 × Int32 × Mm => bd_X12_adds_21  s.1 s.2.1 s.2.2) (fun s : Int32 × Int32 × Mm => sd_X12_adds_21   s.1 s.2.1 s.2.2) FU (p0, 0, μ1)))
set_option maxRecDepth 20000 in
set_option maxHeartbeats 4000000 in
theorem con_X12_adds {E : Ex} {Q : Option Value → Mm → Prop} {p0 : Int32} {μ : Mm} (t : p_X12_adds p0  μ) (k : Q (some (.int (v_X12_adds p0 μ))) (e_X12_adds p0 μ)) : Con E 1 mX12_adds [rf E 49, .int p0] μ Q := by
  refine Con_J (by decide +kernel) (Nat.le_of_ble_eq_true rfl) (fun G => ?_)
  unfold v_X12_adds e_X12_adds at k
  unfold p_X12_adds at t
  refine J_sub (ls' := [(0, rf E 49), (1, .int p0)]) [0, 1] rfl ?_
  refine J_aload_n (dk okX12_adds 0 rfl) 0 rfl rfl ?_
  refine J_dup (dk okX12_adds 1 rfl) rfl ?_
  refine J_getI (dk okX12_adds 2 rfl) kfX12_213 ds_49 rfl ?_
  refine J_iconst (v := 1) (dk okX12_adds 3 rfl) (by decide) ?_
  refine J_iadd (dk okX12_adds 4 rfl) ?_
  refine J_put (dk okX12_adds 5 rfl) kpX12_213 ds_49 rfl rfl rfl ?_
  refine J_nm (fun μ1 eμ1 => ?_)
  have t := t μ1 eμ1
  refine J_aload_n (dk okX12_adds 6 rfl) 0 rfl rfl ?_
  refine J_getI (dk okX12_adds 7 rfl) kfX12_213 ds_49 rfl ?_
  refine J_bipush (v := 15) (dk okX12_adds 8 rfl) (by decide) ?_
  have K7 : J E G 1 mX12_adds Q 59 [(1, .int (if (μ1.1 49 23) ≤ 15 then p0 else ((whl (fun s : Int32 × Int32 × Mm => bd_X12_adds_21  s.1 s.2.1 s.2.2) (fun s : Int32 × Int32 × Mm => (0, s.2.2)) FU (p0, 0, μ1)).1) : Int32))] [] (if (μ1.1 49 23) ≤ 15 then μ1 else ((upI ((whl (fun s : Int32 × Int32 × Mm => bd_X12_adds_21  s.1 s.2.1 s.2.2) (fun s : Int32 × Int32 × Mm => (0, s.2.2)) FU (p0, 0, μ1)).2) 49 23 ((((whl (fun s : Int32 × Int32 × Mm => bd_X12_adds_21  s.1 s.2.1 s.2.2) (fun s : Int32 × Int32 × Mm => (0, s.2.2)) FU (p0, 0, μ1)).2).1 49 23) - 1))) : Mm) := by
    refine J_nm (fun μ6 eμ6 => ?_)
    refine J_iload_n (dk okX12_adds 33 rfl) 0 rfl rfl ?_
    subst eμ6 eμ1
    exact J_iret (dk okX12_adds 34 rfl) rfl k
  refine J_icmp_le (tgt := 59) (dk okX12_adds 9 rfl) (by decide) (fun h2 => ?_) (fun h2 => ?_)
  · refine J_sub (ls' := [(1, _)]) [1] rfl ?_
    (try simp only [if_pos h2] at K7 ⊢); exact K7
  · have t := t h2
    refine J_iconst (v := 0) (dk okX12_adds 10 rfl) (by decide) ?_
    refine J_istore_n (ls' := [(2, _), (0, _), (1, _)]) (dk okX12_adds 11 rfl) rfl (by decide) rfl ?_
    have s3 := t
    refine J_sub (ls' := [(0, _), (1, _), (2, _)]) [1, 2, 0] rfl ?_
    refine lw_X12_adds_21  s3 (fun r4 er4 => ?_)
    refine J_aload_n (dk okX12_adds 27 rfl) 0 rfl rfl ?_
    refine J_dup (dk okX12_adds 28 rfl) rfl ?_
    refine J_getI (dk okX12_adds 29 rfl) kfX12_213 ds_49 rfl ?_
    refine J_iconst (v := 1) (dk okX12_adds 30 rfl) (by decide) ?_
    refine J_isub (dk okX12_adds 31 rfl) ?_
    refine J_put (dk okX12_adds 32 rfl) kpX12_213 ds_49 rfl rfl rfl ?_
    refine J_nm (fun μ5 eμ5 => ?_)
    subst eμ5 er4
    refine J_sub (ls' := [(1, _)]) [1] rfl ?_
    (try simp only [if_neg h2] at K7 ⊢); exact K7
noncomputable def bd_X12_copies_2  (x1 : Int32) (μ : Mm) : (Int32 × Mm) ⊕ (Mm) := (if 24 ≤ x1 then .inr μ else (let μ4 : Mm := (upI μ 53 (Int32.toNatClampNeg x1) (μ.1 52 (Int32.toNatClampNeg x1))); .inl ((x1 + 1), μ4)))
def sd_X12_copies_2   (x1 : Int32) (μ : Mm) : Prop := (¬ (24 ≤ x1) → (vp_in x1 24) ∧ vp_in x1 24)
set_option maxRecDepth 20000 in
set_option maxHeartbeats 4000000 in
theorem lw_X12_copies_2 {E : Ex} {G : Gx} {Q : Option Value → Mm → Prop} {x1 : Int32} {μ : Mm}  (p : whP (fun s : Int32 × Mm => bd_X12_copies_2  s.1 s.2) (fun s : Int32 × Mm => sd_X12_copies_2   s.1 s.2) FU (x1, μ)) (k : ∀ r : Mm, r = whl (fun s : Int32 × Mm => bd_X12_copies_2  s.1 s.2) (fun s : Int32 × Mm => s.2) FU (x1, μ) → J E G 1 mX12_copies Q 26 [] [] r) : J E G 1 mX12_copies Q 2 [(0, rf E 49), (1, .int x1)] [] μ := by
  refine J_whl (f := (fun s : Int32 × Mm => bd_X12_copies_2  s.1 s.2)) (dd := (fun s : Int32 × Mm => s.2)) (sd := (fun s : Int32 × Mm => sd_X12_copies_2   s.1 s.2)) (P := fun s : Int32 × Mm => J E G 1 mX12_copies Q 2 [(0, rf E 49), (1, .int (s.1))] [] (s.2)) (R := fun r : Mm => J E G 1 mX12_copies Q 26 [] [] r) ?_ FU (x1, μ) p (k _ rfl)
  clear p k
  rintro ⟨x1, μ⟩ t k1 k2
  dsimp only [sd_X12_copies_2] at t
  have kb : ∀ (y1 : Int32) (μ9 : Mm), bd_X12_copies_2  x1 μ = .inl (y1, μ9) → J E G 1 mX12_copies Q 2 [(0, rf E 49), (1, .int y1)] [] μ9 := fun y1 μ9 h => k1 (y1, μ9) h
  have kx : ∀  (μ9 : Mm), bd_X12_copies_2  x1 μ = .inr μ9 → J E G 1 mX12_copies Q 26 [] [] μ9 := fun  μ9 h => k2 μ9 h
  clear k1 k2
  refine J_iload_n (dk okX12_copies 2 rfl) 1 rfl rfl ?_
  refine J_bipush (v := 24) (dk okX12_copies 3 rfl) (by decide) ?_
  refine J_icmp_ge (tgt := 26) (dk okX12_copies 4 rfl) (by decide) (fun h1 => ?_) (fun h1 => ?_)
  · exact J_sub [] rfl (kx μ (by unfold bd_X12_copies_2; first | (simp only [if_pos h1]; done) | (simp only [if_pos h1]; rfl) | rfl))
  · have t := t h1
    refine J_aload_n (dk okX12_copies 5 rfl) 0 rfl rfl ?_
    refine J_getR (dk okX12_copies 6 rfl) kfX12_35 ds_49 rfl ?_
    refine J_iload_n (dk okX12_copies 7 rfl) 1 rfl rfl ?_
    refine J_aload_n (dk okX12_copies 8 rfl) 0 rfl rfl ?_
    refine J_getR (dk okX12_copies 9 rfl) kfX12_32 ds_49 rfl ?_
    refine J_iload_n (dk okX12_copies 10 rfl) 1 rfl rfl ?_
    obtain ⟨s2, t⟩ := t
    refine J_iald (dk okX12_copies 11 rfl) ds_52 s2 ?_
    have s3 := t
    refine J_iast (dk okX12_copies 12 rfl) ds_53 s3 ?_
    refine J_nm (fun μ4 eμ4 => ?_)
    refine J_iinc (v := (x1 + 1)) (ls' := [(1, _), (0, _)]) (dk okX12_copies 13 rfl) 1 rfl rfl (by decide) rfl ?_
    refine J_goto (tgt := 2) (dk okX12_copies 14 rfl) (by decide) ?_
    exact J_sub [1, 0] rfl (kb (x1 + 1) μ4 (by subst eμ4; unfold bd_X12_copies_2; first | (simp only [if_neg h1]; done) | (simp only [if_neg h1]; rfl) | rfl))
/-- VotingFloorModel.copies()V -/
noncomputable def e_X12_copies  (μ : Mm) : Mm := (let r2 : Mm := whl (fun s : Int32 × Mm => bd_X12_copies_2  s.1 s.2) (fun s : Int32 × Mm => s.2) FU (0, μ); r2)
def p_X12_copies   (μ : Mm) : Prop := whP (fun s : Int32 × Mm => bd_X12_copies_2  s.1 s.2) (fun s : Int32 × Mm => sd_X12_copies_2   s.1 s.2) FU (0, μ)
set_option maxRecDepth 20000 in
set_option maxHeartbeats 4000000 in
theorem con_X12_copies {E : Ex} {Q : Option Value → Mm → Prop} {μ : Mm} (t : p_X12_copies   μ) (k : Q none (e_X12_copies  μ)) : Con E 1 mX12_copies [rf E 49] μ Q := by
  refine Con_J (by decide +kernel) (Nat.le_of_ble_eq_true rfl) (fun G => ?_)
  unfold e_X12_copies at k
  unfold p_X12_copies at t
  refine J_sub (ls' := [(0, rf E 49)]) [0] rfl ?_
  refine J_iconst (v := 0) (dk okX12_copies 0 rfl) (by decide) ?_
  refine J_istore_n (ls' := [(1, _), (0, _)]) (dk okX12_copies 1 rfl) rfl (by decide) rfl ?_
  have s1 := t
  refine J_sub (ls' := [(0, _), (1, _)]) [1, 0] rfl ?_
  refine lw_X12_copies_2  s1 (fun r2 er2 => ?_)
  subst er2
  exact J_vret (dk okX12_copies 15 rfl) rfl k
noncomputable def bd_X12_laysCode_7 (p0 : Nat) (x2 : Int32) (x3 : Int32) (μ : Mm) : (Int32 × Int32 × Mm) ⊕ (Mm) := (if x2 ≤ x3 then .inr μ else (let μ4 : Mm := (upI μ 57 (Int32.toNatClampNeg x3) (μ.1 p0 (Int32.toNatClampNeg x3))); .inl (x2, (x3 + 1), μ4)))
def sd_X12_laysCode_7 (p0 : Nat)  (x2 : Int32) (x3 : Int32) (μ : Mm) : Prop := (¬ (x2 ≤ x3) → (vp_in x3 80) ∧ vp_in x3 80)
set_option maxRecDepth 20000 in
set_option maxHeartbeats 4000000 in
theorem lw_X12_laysCode_7 {E : Ex} {G : Gx} {Q : Option Value → Mm → Prop} {p0 : Nat} {x2 : Int32} {x3 : Int32} {μ : Mm} (hp0 : dscL[p0]? = some (.inr (.inl (1, 80)))) (p : whP (fun s : Int32 × Int32 × Mm => bd_X12_laysCode_7 p0 s.1 s.2.1 s.2.2) (fun s : Int32 × Int32 × Mm => sd_X12_laysCode_7 p0  s.1 s.2.1 s.2.2) FU (x2, x3, μ)) (k : ∀ r : Mm, r = whl (fun s : Int32 × Int32 × Mm => bd_X12_laysCode_7 p0 s.1 s.2.1 s.2.2) (fun s : Int32 × Int32 × Mm => s.2.2) FU (x2, x3, μ) → J E G 1 mX12_laysCode Q 27 [] [] r) : J E G 1 mX12_laysCode Q 7 [(0, rf E 49), (1, rf E p0), (2, .int x2), (3, .int x3)] [] μ := by
  refine J_whl (f := (fun s : Int32 × Int32 × Mm => bd_X12_laysCode_7 p0 s.1 s.2.1 s.2.2)) (dd := (fun s : Int32 × Int32 × Mm => s.2.2)) (sd := (fun s : Int32 × Int32 × Mm => sd_X12_laysCode_7 p0  s.1 s.2.1 s.2.2)) (P := fun s : Int32 × Int32 × Mm => J E G 1 mX12_laysCode Q 7 [(0, rf E 49), (1, rf E p0), (2, .int (s.1)), (3, .int (s.2.1))] [] (s.2.2)) (R := fun r : Mm => J E G 1 mX12_laysCode Q 27 [] [] r) ?_ FU (x2, x3, μ) p (k _ rfl)
  clear p k
  rintro ⟨x2, x3, μ⟩ t k1 k2
  dsimp only [sd_X12_laysCode_7] at t
  have kb : ∀ (y2 : Int32) (y3 : Int32) (μ9 : Mm), bd_X12_laysCode_7 p0 x2 x3 μ = .inl (y2, y3, μ9) → J E G 1 mX12_laysCode Q 7 [(0, rf E 49), (1, rf E p0), (2, .int y2), (3, .int y3)] [] μ9 := fun y2 y3 μ9 h => k1 (y2, y3, μ9) h
  have kx : ∀  (μ9 : Mm), bd_X12_laysCode_7 p0 x2 x3 μ = .inr μ9 → J E G 1 mX12_laysCode Q 27 [] [] μ9 := fun  μ9 h => k2 μ9 h
  clear k1 k2
  refine J_iload_n (dk okX12_laysCode 5 rfl) 3 rfl rfl ?_
  refine J_iload_n (dk okX12_laysCode 6 rfl) 2 rfl rfl ?_
  refine J_icmp_ge (tgt := 27) (dk okX12_laysCode 7 rfl) (by decide) (fun h1 => ?_) (fun h1 => ?_)
  · exact J_sub [] rfl (kx μ (by unfold bd_X12_laysCode_7; first | (simp only [if_pos h1]; done) | (simp only [if_pos h1]; rfl) | rfl))
  · have t := t h1
    refine J_aload_n (dk okX12_laysCode 8 rfl) 0 rfl rfl ?_
    refine J_getR (dk okX12_laysCode 9 rfl) kfX12_47 ds_49 rfl ?_
    refine J_iload_n (dk okX12_laysCode 10 rfl) 3 rfl rfl ?_
    refine J_aload_n (dk okX12_laysCode 11 rfl) 1 rfl rfl ?_
    refine J_iload_n (dk okX12_laysCode 12 rfl) 3 rfl rfl ?_
    obtain ⟨s2, t⟩ := t
    refine J_iald (dk okX12_laysCode 13 rfl) hp0 s2 ?_
    have s3 := t
    refine J_iast (dk okX12_laysCode 14 rfl) ds_57 s3 ?_
    refine J_nm (fun μ4 eμ4 => ?_)
    refine J_iinc (v := (x3 + 1)) (ls' := [(3, _), (0, _), (1, _), (2, _)]) (dk okX12_laysCode 15 rfl) 3 rfl rfl (by decide) rfl ?_
    refine J_goto (tgt := 7) (dk okX12_laysCode 16 rfl) (by decide) ?_
    exact J_sub [1, 2, 3, 0] rfl (kb x2 (x3 + 1) μ4 (by subst eμ4; unfold bd_X12_laysCode_7; first | (simp only [if_neg h1]; done) | (simp only [if_neg h1]; rfl) | rfl))
/-- VotingFloorModel.laysCode([II)V -/
noncomputable def e_X12_laysCode (p0 : Nat) (p1 : Int32) (μ : Mm) : Mm := (let μ1 : Mm := (upI μ 49 19 p1); (let r3 : Mm := whl (fun s : Int32 × Int32 × Mm => bd_X12_laysCode_7 p0 s.1 s.2.1 s.2.2) (fun s : Int32 × Int32 × Mm => s.2.2) FU (p1, 0, μ1); r3))
def p_X12_laysCode (p0 : Nat) (p1 : Int32)  (μ : Mm) : Prop := (∀ μ1 : Mm, μ1 = (upI μ 49 19 p1) → whP (fun s : Int32 × Int32 × Mm => bd_X12_laysCode_7 p0 s.1 s.2.1 s.2.2) (fun s : Int32 × Int32 × Mm => sd_X12_laysCode_7 p0  s.1 s.2.1 s.2.2) FU (p1, 0, μ1))
set_option maxRecDepth 20000 in
set_option maxHeartbeats 4000000 in
theorem con_X12_laysCode {E : Ex} {Q : Option Value → Mm → Prop} {p0 : Nat} {p1 : Int32} {μ : Mm} (hp0 : dscL[p0]? = some (.inr (.inl (1, 80)))) (t : p_X12_laysCode p0 p1  μ) (k : Q none (e_X12_laysCode p0 p1 μ)) : Con E 1 mX12_laysCode [rf E 49, rf E p0, .int p1] μ Q := by
  refine Con_J (by decide +kernel) (Nat.le_of_ble_eq_true rfl) (fun G => ?_)
  unfold e_X12_laysCode at k
  unfold p_X12_laysCode at t
  refine J_sub (ls' := [(0, rf E 49), (1, rf E p0), (2, .int p1)]) [0, 1, 2] rfl ?_
  refine J_aload_n (dk okX12_laysCode 0 rfl) 0 rfl rfl ?_
  refine J_iload_n (dk okX12_laysCode 1 rfl) 2 rfl rfl ?_
  refine J_put (dk okX12_laysCode 2 rfl) kpX12_240 ds_49 rfl rfl rfl ?_
  refine J_nm (fun μ1 eμ1 => ?_)
  have t := t μ1 eμ1
  refine J_iconst (v := 0) (dk okX12_laysCode 3 rfl) (by decide) ?_
  refine J_istore_n (ls' := [(3, _), (0, _), (1, _), (2, _)]) (dk okX12_laysCode 4 rfl) rfl (by decide) rfl ?_
  have s2 := t
  refine J_sub (ls' := [(0, _), (1, _), (2, _), (3, _)]) [1, 2, 3, 0] rfl ?_
  refine lw_X12_laysCode_7 hp0 s2 (fun r3 er3 => ?_)
  subst er3 eμ1
  exact J_vret (dk okX12_laysCode 17 rfl) rfl k
noncomputable def bd_X12_putsBy_2  (x1 : Int32) (μ : Mm) : (Int32 × Mm) ⊕ (Mm) := (if 24 ≤ x1 then .inr μ else (let μ4 : Mm := (upI μ 61 (Int32.toNatClampNeg ((24 * (μ.1 49 23)) + x1)) (μ.1 52 (Int32.toNatClampNeg x1))); .inl ((x1 + 1), μ4)))
def sd_X12_putsBy_2   (x1 : Int32) (μ : Mm) : Prop := (¬ (24 ≤ x1) → (vp_in x1 24) ∧ vp_in ((24 * (μ.1 49 23)) + x1) 384)
set_option maxRecDepth 20000 in
set_option maxHeartbeats 4000000 in
theorem lw_X12_putsBy_2 {E : Ex} {G : Gx} {Q : Option Value → Mm → Prop} {x1 : Int32} {μ : Mm}  (p : whP (fun s : Int32 × Mm => bd_X12_putsBy_2  s.1 s.2) (fun s : Int32 × Mm => sd_X12_putsBy_2   s.1 s.2) FU (x1, μ)) (k : ∀ r : Mm, r = whl (fun s : Int32 × Mm => bd_X12_putsBy_2  s.1 s.2) (fun s : Int32 × Mm => s.2) FU (x1, μ) → J E G 1 mX12_putsBy Q 34 [] [] r) : J E G 1 mX12_putsBy Q 2 [(0, rf E 49), (1, .int x1)] [] μ := by
  refine J_whl (f := (fun s : Int32 × Mm => bd_X12_putsBy_2  s.1 s.2)) (dd := (fun s : Int32 × Mm => s.2)) (sd := (fun s : Int32 × Mm => sd_X12_putsBy_2   s.1 s.2)) (P := fun s : Int32 × Mm => J E G 1 mX12_putsBy Q 2 [(0, rf E 49), (1, .int (s.1))] [] (s.2)) (R := fun r : Mm => J E G 1 mX12_putsBy Q 34 [] [] r) ?_ FU (x1, μ) p (k _ rfl)
  clear p k
  rintro ⟨x1, μ⟩ t k1 k2
  dsimp only [sd_X12_putsBy_2] at t
  have kb : ∀ (y1 : Int32) (μ9 : Mm), bd_X12_putsBy_2  x1 μ = .inl (y1, μ9) → J E G 1 mX12_putsBy Q 2 [(0, rf E 49), (1, .int y1)] [] μ9 := fun y1 μ9 h => k1 (y1, μ9) h
  have kx : ∀  (μ9 : Mm), bd_X12_putsBy_2  x1 μ = .inr μ9 → J E G 1 mX12_putsBy Q 34 [] [] μ9 := fun  μ9 h => k2 μ9 h
  clear k1 k2
  refine J_iload_n (dk okX12_putsBy 2 rfl) 1 rfl rfl ?_
  refine J_bipush (v := 24) (dk okX12_putsBy 3 rfl) (by decide) ?_
  refine J_icmp_ge (tgt := 34) (dk okX12_putsBy 4 rfl) (by decide) (fun h1 => ?_) (fun h1 => ?_)
  · exact J_sub [] rfl (kx μ (by unfold bd_X12_putsBy_2; first | (simp only [if_pos h1]; done) | (simp only [if_pos h1]; rfl) | rfl))
  · have t := t h1
    refine J_aload_n (dk okX12_putsBy 5 rfl) 0 rfl rfl ?_
    refine J_getR (dk okX12_putsBy 6 rfl) kfX12_59 ds_49 rfl ?_
    refine J_bipush (v := 24) (dk okX12_putsBy 7 rfl) (by decide) ?_
    refine J_aload_n (dk okX12_putsBy 8 rfl) 0 rfl rfl ?_
    refine J_getI (dk okX12_putsBy 9 rfl) kfX12_213 ds_49 rfl ?_
    refine J_imul (dk okX12_putsBy 10 rfl) ?_
    refine J_iload_n (dk okX12_putsBy 11 rfl) 1 rfl rfl ?_
    refine J_iadd (dk okX12_putsBy 12 rfl) ?_
    refine J_aload_n (dk okX12_putsBy 13 rfl) 0 rfl rfl ?_
    refine J_getR (dk okX12_putsBy 14 rfl) kfX12_32 ds_49 rfl ?_
    refine J_iload_n (dk okX12_putsBy 15 rfl) 1 rfl rfl ?_
    obtain ⟨s2, t⟩ := t
    refine J_iald (dk okX12_putsBy 16 rfl) ds_52 s2 ?_
    have s3 := t
    refine J_iast (dk okX12_putsBy 17 rfl) ds_61 s3 ?_
    refine J_nm (fun μ4 eμ4 => ?_)
    refine J_iinc (v := (x1 + 1)) (ls' := [(1, _), (0, _)]) (dk okX12_putsBy 18 rfl) 1 rfl rfl (by decide) rfl ?_
    refine J_goto (tgt := 2) (dk okX12_putsBy 19 rfl) (by decide) ?_
    exact J_sub [1, 0] rfl (kb (x1 + 1) μ4 (by subst eμ4; unfold bd_X12_putsBy_2; first | (simp only [if_neg h1]; done) | (simp only [if_neg h1]; rfl) | rfl))
/-- VotingFloorModel.putsBy()V -/
noncomputable def e_X12_putsBy  (μ : Mm) : Mm := (let r2 : Mm := whl (fun s : Int32 × Mm => bd_X12_putsBy_2  s.1 s.2) (fun s : Int32 × Mm => s.2) FU (0, μ); r2)
def p_X12_putsBy   (μ : Mm) : Prop := whP (fun s : Int32 × Mm => bd_X12_putsBy_2  s.1 s.2) (fun s : Int32 × Mm => sd_X12_putsBy_2   s.1 s.2) FU (0, μ)
set_option maxRecDepth 20000 in
set_option maxHeartbeats 4000000 in
theorem con_X12_putsBy {E : Ex} {Q : Option Value → Mm → Prop} {μ : Mm} (t : p_X12_putsBy   μ) (k : Q none (e_X12_putsBy  μ)) : Con E 1 mX12_putsBy [rf E 49] μ Q := by
  refine Con_J (by decide +kernel) (Nat.le_of_ble_eq_true rfl) (fun G => ?_)
  unfold e_X12_putsBy at k
  unfold p_X12_putsBy at t
  refine J_sub (ls' := [(0, rf E 49)]) [0] rfl ?_
  refine J_iconst (v := 0) (dk okX12_putsBy 0 rfl) (by decide) ?_
  refine J_istore_n (ls' := [(1, _), (0, _)]) (dk okX12_putsBy 1 rfl) rfl (by decide) rfl ?_
  have s1 := t
  refine J_sub (ls' := [(0, _), (1, _)]) [1, 0] rfl ?_
  refine lw_X12_putsBy_2  s1 (fun r2 er2 => ?_)
  subst er2
  exact J_vret (dk okX12_putsBy 20 rfl) rfl k
noncomputable def bd_X12_sign_18  (x1 : Int32) (x2 : Int32) (μ : Mm) : (Int32 × Int32 × Mm) ⊕ (Mm) := (if 4 ≤ x2 then .inr μ else (let μ3 : Mm := (upI μ 54 (Int32.toNatClampNeg ((μ.1 49 9) + x2)) ((x1 >>> ((24 - (8 * x2)) &&& 31)) &&& 255)); .inl (x1, (x2 + 1), μ3)))
def sd_X12_sign_18   (x1 : Int32) (x2 : Int32) (μ : Mm) : Prop := (¬ (4 ≤ x2) → vp_in ((μ.1 49 9) + x2) 80)
set_option maxRecDepth 20000 in
set_option maxHeartbeats 4000000 in
theorem lw_X12_sign_18 {E : Ex} {G : Gx} {Q : Option Value → Mm → Prop} {x1 : Int32} {x2 : Int32} {μ : Mm}  (p : whP (fun s : Int32 × Int32 × Mm => bd_X12_sign_18  s.1 s.2.1 s.2.2) (fun s : Int32 × Int32 × Mm => sd_X12_sign_18   s.1 s.2.1 s.2.2) FU (x1, x2, μ)) (k : ∀ r : Mm, r = whl (fun s : Int32 × Int32 × Mm => bd_X12_sign_18  s.1 s.2.1 s.2.2) (fun s : Int32 × Int32 × Mm => s.2.2) FU (x1, x2, μ) → J E G 1 mX12_sign Q 53 [(0, rf E 49)] [] r) : J E G 1 mX12_sign Q 18 [(0, rf E 49), (1, .int x1), (2, .int x2)] [] μ := by
  refine J_whl (f := (fun s : Int32 × Int32 × Mm => bd_X12_sign_18  s.1 s.2.1 s.2.2)) (dd := (fun s : Int32 × Int32 × Mm => s.2.2)) (sd := (fun s : Int32 × Int32 × Mm => sd_X12_sign_18   s.1 s.2.1 s.2.2)) (P := fun s : Int32 × Int32 × Mm => J E G 1 mX12_sign Q 18 [(0, rf E 49), (1, .int (s.1)), (2, .int (s.2.1))] [] (s.2.2)) (R := fun r : Mm => J E G 1 mX12_sign Q 53 [(0, rf E 49)] [] r) ?_ FU (x1, x2, μ) p (k _ rfl)
  clear p k
  rintro ⟨x1, x2, μ⟩ t k1 k2
  dsimp only [sd_X12_sign_18] at t
  have kb : ∀ (y1 : Int32) (y2 : Int32) (μ9 : Mm), bd_X12_sign_18  x1 x2 μ = .inl (y1, y2, μ9) → J E G 1 mX12_sign Q 18 [(0, rf E 49), (1, .int y1), (2, .int y2)] [] μ9 := fun y1 y2 μ9 h => k1 (y1, y2, μ9) h
  have kx : ∀  (μ9 : Mm), bd_X12_sign_18  x1 x2 μ = .inr μ9 → J E G 1 mX12_sign Q 53 [(0, rf E 49)] [] μ9 := fun  μ9 h => k2 μ9 h
  clear k1 k2
  refine J_iload_n (dk okX12_sign 11 rfl) 2 rfl rfl ?_
  refine J_iconst (v := 4) (dk okX12_sign 12 rfl) (by decide) ?_
  refine J_icmp_ge (tgt := 53) (dk okX12_sign 13 rfl) (by decide) (fun h1 => ?_) (fun h1 => ?_)
  · exact J_sub [0] rfl (kx μ (by unfold bd_X12_sign_18; first | (simp only [if_pos h1]; done) | (simp only [if_pos h1]; rfl) | rfl))
  · have t := t h1
    refine J_aload_n (dk okX12_sign 14 rfl) 0 rfl rfl ?_
    refine J_getR (dk okX12_sign 15 rfl) kfX12_38 ds_49 rfl ?_
    refine J_aload_n (dk okX12_sign 16 rfl) 0 rfl rfl ?_
    refine J_getI (dk okX12_sign 17 rfl) kfX12_141 ds_49 rfl ?_
    refine J_iload_n (dk okX12_sign 18 rfl) 2 rfl rfl ?_
    refine J_iadd (dk okX12_sign 19 rfl) ?_
    refine J_iload_n (dk okX12_sign 20 rfl) 1 rfl rfl ?_
    refine J_bipush (v := 24) (dk okX12_sign 21 rfl) (by decide) ?_
    refine J_bipush (v := 8) (dk okX12_sign 22 rfl) (by decide) ?_
    refine J_iload_n (dk okX12_sign 23 rfl) 2 rfl rfl ?_
    refine J_imul (dk okX12_sign 24 rfl) ?_
    refine J_isub (dk okX12_sign 25 rfl) ?_
    refine J_ishr (dk okX12_sign 26 rfl) ?_
    refine J_sipush (v := 255) (dk okX12_sign 27 rfl) (by decide) ?_
    refine J_iand (dk okX12_sign 28 rfl) ?_
    have s2 := t
    refine J_iast (dk okX12_sign 29 rfl) ds_54 s2 ?_
    refine J_nm (fun μ3 eμ3 => ?_)
    refine J_iinc (v := (x2 + 1)) (ls' := [(2, _), (0, _), (1, _)]) (dk okX12_sign 30 rfl) 2 rfl rfl (by decide) rfl ?_
    refine J_goto (tgt := 18) (dk okX12_sign 31 rfl) (by decide) ?_
    exact J_sub [1, 2, 0] rfl (kb x1 (x2 + 1) μ3 (by subst eμ3; unfold bd_X12_sign_18; first | (simp only [if_neg h1]; done) | (simp only [if_neg h1]; rfl) | rfl))
/-- VotingFloorModel.sign(I)I -/
noncomputable def v_X12_sign (p0 : Int32) (μ : Mm) : Int32 := (let μ1 : Mm := (upI μ 49 0 0); (if (μ1.1 49 9) ≤ 76 then (let r4 : Mm := whl (fun s : Int32 × Int32 × Mm => bd_X12_sign_18  s.1 s.2.1 s.2.2) (fun s : Int32 × Int32 × Mm => s.2.2) FU (p0, 0, μ1); (let μ5 : Mm := (upI r4 49 9 ((r4.1 49 9) + 4)); (μ5.1 49 9))) else (-1)))
noncomputable def e_X12_sign (p0 : Int32) (μ : Mm) : Mm := (let μ1 : Mm := (upI μ 49 0 0); (if (μ1.1 49 9) ≤ 76 then (let r4 : Mm := whl (fun s : Int32 × Int32 × Mm => bd_X12_sign_18  s.1 s.2.1 s.2.2) (fun s : Int32 × Int32 × Mm => s.2.2) FU (p0, 0, μ1); (let μ5 : Mm := (upI r4 49 9 ((r4.1 49 9) + 4)); μ5)) else μ1))
def p_X12_sign (p0 : Int32)  (μ : Mm) : Prop := (∀ μ1 : Mm, μ1 = (upI μ 49 0 0) → ((μ1.1 49 9) ≤ 76 → whP (fun s : Int32 × Int32 × Mm => bd_X12_sign_18  s.1 s.2.1 s.2.2) (fun s : Int32 × Int32 × Mm => sd_X12_sign_18   s.1 s.2.1 s.2.2) FU (p0, 0, μ1)))
set_option maxRecDepth 20000 in
set_option maxHeartbeats 4000000 in
theorem con_X12_sign {E : Ex} {Q : Option Value → Mm → Prop} {p0 : Int32} {μ : Mm} (t : p_X12_sign p0  μ) (k : Q (some (.int (v_X12_sign p0 μ))) (e_X12_sign p0 μ)) : Con E 1 mX12_sign [rf E 49, .int p0] μ Q := by
  refine Con_J (by decide +kernel) (Nat.le_of_ble_eq_true rfl) (fun G => ?_)
  unfold v_X12_sign e_X12_sign at k
  unfold p_X12_sign at t
  refine J_sub (ls' := [(0, rf E 49), (1, .int p0)]) [0, 1] rfl ?_
  refine J_aload_n (dk okX12_sign 0 rfl) 0 rfl rfl ?_
  refine J_iconst (v := 0) (dk okX12_sign 1 rfl) (by decide) ?_
  refine J_put (dk okX12_sign 2 rfl) kpX12_3 ds_49 rfl rfl rfl ?_
  refine J_nm (fun μ1 eμ1 => ?_)
  have t := t μ1 eμ1
  refine J_aload_n (dk okX12_sign 3 rfl) 0 rfl rfl ?_
  refine J_getI (dk okX12_sign 4 rfl) kfX12_141 ds_49 rfl ?_
  refine J_bipush (v := 76) (dk okX12_sign 5 rfl) (by decide) ?_
  refine J_icmp_le (tgt := 16) (dk okX12_sign 6 rfl) (by decide) (fun h2 => ?_) (fun h2 => ?_)
  · have t := t h2
    refine J_iconst (v := 0) (dk okX12_sign 9 rfl) (by decide) ?_
    refine J_istore_n (ls' := [(2, _), (0, _), (1, _)]) (dk okX12_sign 10 rfl) rfl (by decide) rfl ?_
    have s3 := t
    refine J_sub (ls' := [(0, _), (1, _), (2, _)]) [1, 2, 0] rfl ?_
    refine lw_X12_sign_18  s3 (fun r4 er4 => ?_)
    refine J_aload_n (dk okX12_sign 32 rfl) 0 rfl rfl ?_
    refine J_dup (dk okX12_sign 33 rfl) rfl ?_
    refine J_getI (dk okX12_sign 34 rfl) kfX12_141 ds_49 rfl ?_
    refine J_iconst (v := 4) (dk okX12_sign 35 rfl) (by decide) ?_
    refine J_iadd (dk okX12_sign 36 rfl) ?_
    refine J_put (dk okX12_sign 37 rfl) kpX12_141 ds_49 rfl rfl rfl ?_
    refine J_nm (fun μ5 eμ5 => ?_)
    refine J_aload_n (dk okX12_sign 38 rfl) 0 rfl rfl ?_
    refine J_getI (dk okX12_sign 39 rfl) kfX12_141 ds_49 rfl ?_
    subst eμ5 er4 eμ1
    (try simp only [if_pos h2] at k ⊢)
    exact J_iret (dk okX12_sign 40 rfl) rfl k
  · refine J_iconst (v := (-1)) (dk okX12_sign 7 rfl) (by decide) ?_
    subst eμ1
    (try simp only [if_neg h2] at k ⊢)
    exact J_iret (dk okX12_sign 8 rfl) rfl k
noncomputable def bd_X12_undo_26  (x1 : Int32) (μ : Mm) : (Int32 × Mm) ⊕ (Mm) := (if 24 ≤ x1 then .inr μ else (let μ4 : Mm := (upI μ 52 (Int32.toNatClampNeg x1) (μ.1 61 (Int32.toNatClampNeg ((24 * (μ.1 49 23)) + x1)))); .inl ((x1 + 1), μ4)))
def sd_X12_undo_26   (x1 : Int32) (μ : Mm) : Prop := (¬ (24 ≤ x1) → (vp_in ((24 * (μ.1 49 23)) + x1) 384) ∧ vp_in x1 24)
set_option maxRecDepth 20000 in
set_option maxHeartbeats 4000000 in
theorem lw_X12_undo_26 {E : Ex} {G : Gx} {Q : Option Value → Mm → Prop} {x1 : Int32} {μ : Mm}  (p : whP (fun s : Int32 × Mm => bd_X12_undo_26  s.1 s.2) (fun s : Int32 × Mm => sd_X12_undo_26   s.1 s.2) FU (x1, μ)) (k : ∀ r : Mm, r = whl (fun s : Int32 × Mm => bd_X12_undo_26  s.1 s.2) (fun s : Int32 × Mm => s.2) FU (x1, μ) → J E G 1 mX12_undo Q 58 [(0, rf E 49)] [] r) : J E G 1 mX12_undo Q 26 [(0, rf E 49), (1, .int x1)] [] μ := by
  refine J_whl (f := (fun s : Int32 × Mm => bd_X12_undo_26  s.1 s.2)) (dd := (fun s : Int32 × Mm => s.2)) (sd := (fun s : Int32 × Mm => sd_X12_undo_26   s.1 s.2)) (P := fun s : Int32 × Mm => J E G 1 mX12_undo Q 26 [(0, rf E 49), (1, .int (s.1))] [] (s.2)) (R := fun r : Mm => J E G 1 mX12_undo Q 58 [(0, rf E 49)] [] r) ?_ FU (x1, μ) p (k _ rfl)
  clear p k
  rintro ⟨x1, μ⟩ t k1 k2
  dsimp only [sd_X12_undo_26] at t
  have kb : ∀ (y1 : Int32) (μ9 : Mm), bd_X12_undo_26  x1 μ = .inl (y1, μ9) → J E G 1 mX12_undo Q 26 [(0, rf E 49), (1, .int y1)] [] μ9 := fun y1 μ9 h => k1 (y1, μ9) h
  have kx : ∀  (μ9 : Mm), bd_X12_undo_26  x1 μ = .inr μ9 → J E G 1 mX12_undo Q 58 [(0, rf E 49)] [] μ9 := fun  μ9 h => k2 μ9 h
  clear k1 k2
  refine J_iload_n (dk okX12_undo 16 rfl) 1 rfl rfl ?_
  refine J_bipush (v := 24) (dk okX12_undo 17 rfl) (by decide) ?_
  refine J_icmp_ge (tgt := 58) (dk okX12_undo 18 rfl) (by decide) (fun h1 => ?_) (fun h1 => ?_)
  · exact J_sub [0] rfl (kx μ (by unfold bd_X12_undo_26; first | (simp only [if_pos h1]; done) | (simp only [if_pos h1]; rfl) | rfl))
  · have t := t h1
    refine J_aload_n (dk okX12_undo 19 rfl) 0 rfl rfl ?_
    refine J_getR (dk okX12_undo 20 rfl) kfX12_32 ds_49 rfl ?_
    refine J_iload_n (dk okX12_undo 21 rfl) 1 rfl rfl ?_
    refine J_aload_n (dk okX12_undo 22 rfl) 0 rfl rfl ?_
    refine J_getR (dk okX12_undo 23 rfl) kfX12_59 ds_49 rfl ?_
    refine J_bipush (v := 24) (dk okX12_undo 24 rfl) (by decide) ?_
    refine J_aload_n (dk okX12_undo 25 rfl) 0 rfl rfl ?_
    refine J_getI (dk okX12_undo 26 rfl) kfX12_213 ds_49 rfl ?_
    refine J_imul (dk okX12_undo 27 rfl) ?_
    refine J_iload_n (dk okX12_undo 28 rfl) 1 rfl rfl ?_
    refine J_iadd (dk okX12_undo 29 rfl) ?_
    obtain ⟨s2, t⟩ := t
    refine J_iald (dk okX12_undo 30 rfl) ds_61 s2 ?_
    have s3 := t
    refine J_iast (dk okX12_undo 31 rfl) ds_52 s3 ?_
    refine J_nm (fun μ4 eμ4 => ?_)
    refine J_iinc (v := (x1 + 1)) (ls' := [(1, _), (0, _)]) (dk okX12_undo 32 rfl) 1 rfl rfl (by decide) rfl ?_
    refine J_goto (tgt := 26) (dk okX12_undo 33 rfl) (by decide) ?_
    exact J_sub [1, 0] rfl (kb (x1 + 1) μ4 (by subst eμ4; unfold bd_X12_undo_26; first | (simp only [if_neg h1]; done) | (simp only [if_neg h1]; rfl) | rfl))
/-- VotingFloorModel.undo()I -/
noncomputable def v_X12_undo  (μ : Mm) : Int32 := (let μ1 : Mm := (upI μ 49 0 0); (if (μ1.1 49 23) = 0 then (-1) else (let μ3 : Mm := (upI μ1 49 23 ((μ1.1 49 23) - 1)); (let r5 : Mm := whl (fun s : Int32 × Mm => bd_X12_undo_26  s.1 s.2) (fun s : Int32 × Mm => s.2) FU (0, μ3); (r5.1 49 23)))))
noncomputable def e_X12_undo  (μ : Mm) : Mm := (let μ1 : Mm := (upI μ 49 0 0); (if (μ1.1 49 23) = 0 then μ1 else (let μ3 : Mm := (upI μ1 49 23 ((μ1.1 49 23) - 1)); (let r5 : Mm := whl (fun s : Int32 × Mm => bd_X12_undo_26  s.1 s.2) (fun s : Int32 × Mm => s.2) FU (0, μ3); r5))))
def p_X12_undo   (μ : Mm) : Prop := (∀ μ1 : Mm, μ1 = (upI μ 49 0 0) → (¬ ((μ1.1 49 23) = 0) → (∀ μ3 : Mm, μ3 = (upI μ1 49 23 ((μ1.1 49 23) - 1)) → whP (fun s : Int32 × Mm => bd_X12_undo_26  s.1 s.2) (fun s : Int32 × Mm => sd_X12_undo_26   s.1 s.2) FU (0, μ3))))
set_option maxRecDepth 20000 in
set_option maxHeartbeats 4000000 in
theorem con_X12_undo {E : Ex} {Q : Option Value → Mm → Prop} {μ : Mm} (t : p_X12_undo   μ) (k : Q (some (.int (v_X12_undo  μ))) (e_X12_undo  μ)) : Con E 1 mX12_undo [rf E 49] μ Q := by
  refine Con_J (by decide +kernel) (Nat.le_of_ble_eq_true rfl) (fun G => ?_)
  unfold v_X12_undo e_X12_undo at k
  unfold p_X12_undo at t
  refine J_sub (ls' := [(0, rf E 49)]) [0] rfl ?_
  refine J_aload_n (dk okX12_undo 0 rfl) 0 rfl rfl ?_
  refine J_iconst (v := 0) (dk okX12_undo 1 rfl) (by decide) ?_
  refine J_put (dk okX12_undo 2 rfl) kpX12_3 ds_49 rfl rfl rfl ?_
  refine J_nm (fun μ1 eμ1 => ?_)
  have t := t μ1 eμ1
  refine J_aload_n (dk okX12_undo 3 rfl) 0 rfl rfl ?_
  refine J_getI (dk okX12_undo 4 rfl) kfX12_213 ds_49 rfl ?_
  refine J_if_ne (tgt := 14) (dk okX12_undo 5 rfl) (by decide) (fun h2 => ?_) (fun h2 => ?_)
  · have t := t h2
    refine J_aload_n (dk okX12_undo 8 rfl) 0 rfl rfl ?_
    refine J_dup (dk okX12_undo 9 rfl) rfl ?_
    refine J_getI (dk okX12_undo 10 rfl) kfX12_213 ds_49 rfl ?_
    refine J_iconst (v := 1) (dk okX12_undo 11 rfl) (by decide) ?_
    refine J_isub (dk okX12_undo 12 rfl) ?_
    refine J_put (dk okX12_undo 13 rfl) kpX12_213 ds_49 rfl rfl rfl ?_
    refine J_nm (fun μ3 eμ3 => ?_)
    have t := t μ3 eμ3
    refine J_iconst (v := 0) (dk okX12_undo 14 rfl) (by decide) ?_
    refine J_istore_n (ls' := [(1, _), (0, _)]) (dk okX12_undo 15 rfl) rfl (by decide) rfl ?_
    have s4 := t
    refine J_sub (ls' := [(0, _), (1, _)]) [1, 0] rfl ?_
    refine lw_X12_undo_26  s4 (fun r5 er5 => ?_)
    refine J_aload_n (dk okX12_undo 34 rfl) 0 rfl rfl ?_
    refine J_getI (dk okX12_undo 35 rfl) kfX12_213 ds_49 rfl ?_
    subst er5 eμ3 eμ1
    (try simp only [if_neg h2] at k ⊢)
    exact J_iret (dk okX12_undo 36 rfl) rfl k
  · refine J_iconst (v := (-1)) (dk okX12_undo 6 rfl) (by decide) ?_
    subst eμ1
    (try simp only [if_pos h2] at k ⊢)
    exact J_iret (dk okX12_undo 7 rfl) rfl k
noncomputable def bd_X1_become_10 (b : Nat) (p0 : Nat) (x2 : Int32) (μ : Mm) : (Int32 × Mm) ⊕ (Mm) := (if 7 ≤ x2 then .inr μ else (let μ4 : Mm := (upI μ (b + 1) (Int32.toNatClampNeg x2) (μ.1 (p0 + 1) (Int32.toNatClampNeg x2))); (let μ7 : Mm := (upI μ4 (b + 2) (Int32.toNatClampNeg x2) (μ4.1 (p0 + 2) (Int32.toNatClampNeg x2))); (let μ10 : Mm := (upI μ7 (b + 3) (Int32.toNatClampNeg x2) (μ7.1 (p0 + 3) (Int32.toNatClampNeg x2))); (let μ13 : Mm := (upI μ10 (b + 4) (Int32.toNatClampNeg x2) (μ10.1 (p0 + 4) (Int32.toNatClampNeg x2))); .inl ((x2 + 1), μ13))))))
def sd_X1_become_10 (b : Nat) (p0 : Nat)  (x2 : Int32) (μ : Mm) : Prop := (¬ (7 ≤ x2) → (vp_in x2 7) ∧ (vp_in x2 7) ∧ (∀ μ4 : Mm, μ4 = (upI μ (b + 1) (Int32.toNatClampNeg x2) (μ.1 (p0 + 1) (Int32.toNatClampNeg x2))) → (vp_in x2 7) ∧ (vp_in x2 7) ∧ (∀ μ7 : Mm, μ7 = (upI μ4 (b + 2) (Int32.toNatClampNeg x2) (μ4.1 (p0 + 2) (Int32.toNatClampNeg x2))) → (vp_in x2 7) ∧ (vp_in x2 7) ∧ (∀ μ10 : Mm, μ10 = (upI μ7 (b + 3) (Int32.toNatClampNeg x2) (μ7.1 (p0 + 3) (Int32.toNatClampNeg x2))) → (vp_in x2 7) ∧ vp_in x2 7))))
set_option maxRecDepth 20000 in
set_option maxHeartbeats 4000000 in
theorem lw_X1_become_10 {E : Ex} {G : Gx} {Q : Option Value → Mm → Prop} {b : Nat} {p0 : Nat} {x2 : Int32} {μ : Mm} (hb : FloorAt b) (hp0 : FloorAt p0) (p : whP (fun s : Int32 × Mm => bd_X1_become_10 b p0 s.1 s.2) (fun s : Int32 × Mm => sd_X1_become_10 b p0  s.1 s.2) FU (x2, μ)) (k : ∀ r : Mm, r = whl (fun s : Int32 × Mm => bd_X1_become_10 b p0 s.1 s.2) (fun s : Int32 × Mm => s.2) FU (x2, μ) → J E G 1 mX1_become Q 70 [(0, rf E b), (1, rf E p0)] [] r) : J E G 1 mX1_become Q 10 [(0, rf E b), (1, rf E p0), (2, .int x2)] [] μ := by
  refine J_whl (f := (fun s : Int32 × Mm => bd_X1_become_10 b p0 s.1 s.2)) (dd := (fun s : Int32 × Mm => s.2)) (sd := (fun s : Int32 × Mm => sd_X1_become_10 b p0  s.1 s.2)) (P := fun s : Int32 × Mm => J E G 1 mX1_become Q 10 [(0, rf E b), (1, rf E p0), (2, .int (s.1))] [] (s.2)) (R := fun r : Mm => J E G 1 mX1_become Q 70 [(0, rf E b), (1, rf E p0)] [] r) ?_ FU (x2, μ) p (k _ rfl)
  clear p k
  rintro ⟨x2, μ⟩ t k1 k2
  dsimp only [sd_X1_become_10] at t
  have kb : ∀ (y2 : Int32) (μ9 : Mm), bd_X1_become_10 b p0 x2 μ = .inl (y2, μ9) → J E G 1 mX1_become Q 10 [(0, rf E b), (1, rf E p0), (2, .int y2)] [] μ9 := fun y2 μ9 h => k1 (y2, μ9) h
  have kx : ∀  (μ9 : Mm), bd_X1_become_10 b p0 x2 μ = .inr μ9 → J E G 1 mX1_become Q 70 [(0, rf E b), (1, rf E p0)] [] μ9 := fun  μ9 h => k2 μ9 h
  clear k1 k2
  refine J_iload_n (dk okX1_become 6 rfl) 2 rfl rfl ?_
  refine J_bipush (v := 7) (dk okX1_become 7 rfl) (by decide) ?_
  refine J_icmp_ge (tgt := 70) (dk okX1_become 8 rfl) (by decide) (fun h1 => ?_) (fun h1 => ?_)
  · exact J_sub [0, 1] rfl (kx μ (by unfold bd_X1_become_10; first | (simp only [if_pos h1]; done) | (simp only [if_pos h1]; rfl) | rfl))
  · have t := t h1
    refine J_aload_n (dk okX1_become 9 rfl) 0 rfl rfl ?_
    refine J_getR (dk okX1_become 10 rfl) kfX1_15 hb.1 rfl ?_
    refine J_iload_n (dk okX1_become 11 rfl) 2 rfl rfl ?_
    refine J_aload_n (dk okX1_become 12 rfl) 1 rfl rfl ?_
    refine J_getR (dk okX1_become 13 rfl) kfX1_15 hp0.1 rfl ?_
    refine J_iload_n (dk okX1_become 14 rfl) 2 rfl rfl ?_
    obtain ⟨s2, t⟩ := t
    refine J_iald (dk okX1_become 15 rfl) hp0.2.1 s2 ?_
    obtain ⟨s3, t⟩ := t
    refine J_iast (dk okX1_become 16 rfl) hb.2.1 s3 ?_
    refine J_nm (fun μ4 eμ4 => ?_)
    have t := t μ4 eμ4
    refine J_aload_n (dk okX1_become 17 rfl) 0 rfl rfl ?_
    refine J_getR (dk okX1_become 18 rfl) kfX1_19 hb.1 rfl ?_
    refine J_iload_n (dk okX1_become 19 rfl) 2 rfl rfl ?_
    refine J_aload_n (dk okX1_become 20 rfl) 1 rfl rfl ?_
    refine J_getR (dk okX1_become 21 rfl) kfX1_19 hp0.1 rfl ?_
    refine J_iload_n (dk okX1_become 22 rfl) 2 rfl rfl ?_
    obtain ⟨s5, t⟩ := t
    refine J_iald (dk okX1_become 23 rfl) hp0.2.2.1 s5 ?_
    obtain ⟨s6, t⟩ := t
    refine J_iast (dk okX1_become 24 rfl) hb.2.2.1 s6 ?_
    refine J_nm (fun μ7 eμ7 => ?_)
    have t := t μ7 eμ7
    refine J_aload_n (dk okX1_become 25 rfl) 0 rfl rfl ?_
    refine J_getR (dk okX1_become 26 rfl) kfX1_22 hb.1 rfl ?_
    refine J_iload_n (dk okX1_become 27 rfl) 2 rfl rfl ?_
    refine J_aload_n (dk okX1_become 28 rfl) 1 rfl rfl ?_
    refine J_getR (dk okX1_become 29 rfl) kfX1_22 hp0.1 rfl ?_
    refine J_iload_n (dk okX1_become 30 rfl) 2 rfl rfl ?_
    obtain ⟨s8, t⟩ := t
    refine J_iald (dk okX1_become 31 rfl) hp0.2.2.2.1 s8 ?_
    obtain ⟨s9, t⟩ := t
    refine J_iast (dk okX1_become 32 rfl) hb.2.2.2.1 s9 ?_
    refine J_nm (fun μ10 eμ10 => ?_)
    have t := t μ10 eμ10
    refine J_aload_n (dk okX1_become 33 rfl) 0 rfl rfl ?_
    refine J_getR (dk okX1_become 34 rfl) kfX1_25 hb.1 rfl ?_
    refine J_iload_n (dk okX1_become 35 rfl) 2 rfl rfl ?_
    refine J_aload_n (dk okX1_become 36 rfl) 1 rfl rfl ?_
    refine J_getR (dk okX1_become 37 rfl) kfX1_25 hp0.1 rfl ?_
    refine J_iload_n (dk okX1_become 38 rfl) 2 rfl rfl ?_
    obtain ⟨s11, t⟩ := t
    refine J_iald (dk okX1_become 39 rfl) hp0.2.2.2.2.1 s11 ?_
    have s12 := t
    refine J_iast (dk okX1_become 40 rfl) hb.2.2.2.2.1 s12 ?_
    refine J_nm (fun μ13 eμ13 => ?_)
    refine J_iinc (v := (x2 + 1)) (ls' := [(2, _), (0, _), (1, _)]) (dk okX1_become 41 rfl) 2 rfl rfl (by decide) rfl ?_
    refine J_goto (tgt := 10) (dk okX1_become 42 rfl) (by decide) ?_
    exact J_sub [1, 2, 0] rfl (kb (x2 + 1) μ13 (by subst eμ13 eμ10 eμ7 eμ4; unfold bd_X1_become_10; first | (simp only [if_neg h1]; done) | (simp only [if_neg h1]; rfl) | rfl))
/-- VotingFloor$Floor.become(LVotingFloor$Floor;)V -/
noncomputable def e_X1_become (b : Nat) (p0 : Nat) (μ : Mm) : Mm := (let μ1 : Mm := (upI μ b 0 (μ.1 p0 0)); (let r3 : Mm := whl (fun s : Int32 × Mm => bd_X1_become_10 b p0 s.1 s.2) (fun s : Int32 × Mm => s.2) FU (0, μ1); (let μ4 : Mm := (upI r3 b 5 (r3.1 p0 5)); (let μ5 : Mm := (upI μ4 b 6 (μ4.1 p0 6)); (let μ6 : Mm := (upI μ5 b 7 (μ5.1 p0 7)); μ6)))))
def p_X1_become (b : Nat) (p0 : Nat)  (μ : Mm) : Prop := (∀ μ1 : Mm, μ1 = (upI μ b 0 (μ.1 p0 0)) → whP (fun s : Int32 × Mm => bd_X1_become_10 b p0 s.1 s.2) (fun s : Int32 × Mm => sd_X1_become_10 b p0  s.1 s.2) FU (0, μ1))
set_option maxRecDepth 20000 in
set_option maxHeartbeats 4000000 in
theorem con_X1_become {E : Ex} {Q : Option Value → Mm → Prop} {b : Nat} {p0 : Nat} {μ : Mm} (hb : FloorAt b) (hp0 : FloorAt p0) (t : p_X1_become b p0  μ) (k : Q none (e_X1_become b p0 μ)) : Con E 1 mX1_become [rf E b, rf E p0] μ Q := by
  refine Con_J (by decide +kernel) (Nat.le_of_ble_eq_true rfl) (fun G => ?_)
  unfold e_X1_become at k
  unfold p_X1_become at t
  refine J_sub (ls' := [(0, rf E b), (1, rf E p0)]) [0, 1] rfl ?_
  refine J_aload_n (dk okX1_become 0 rfl) 0 rfl rfl ?_
  refine J_aload_n (dk okX1_become 1 rfl) 1 rfl rfl ?_
  refine J_getI (dk okX1_become 2 rfl) kfX1_9 hp0.1 rfl ?_
  refine J_put (dk okX1_become 3 rfl) kpX1_9 hb.1 rfl rfl rfl ?_
  refine J_nm (fun μ1 eμ1 => ?_)
  have t := t μ1 eμ1
  refine J_iconst (v := 0) (dk okX1_become 4 rfl) (by decide) ?_
  refine J_istore_n (ls' := [(2, _), (0, _), (1, _)]) (dk okX1_become 5 rfl) rfl (by decide) rfl ?_
  have s2 := t
  refine J_sub (ls' := [(0, _), (1, _), (2, _)]) [1, 2, 0] rfl ?_
  refine lw_X1_become_10 hb hp0 s2 (fun r3 er3 => ?_)
  refine J_aload_n (dk okX1_become 43 rfl) 0 rfl rfl ?_
  refine J_aload_n (dk okX1_become 44 rfl) 1 rfl rfl ?_
  refine J_getI (dk okX1_become 45 rfl) kfX1_28 hp0.1 rfl ?_
  refine J_put (dk okX1_become 46 rfl) kpX1_28 hb.1 rfl rfl rfl ?_
  refine J_nm (fun μ4 eμ4 => ?_)
  refine J_aload_n (dk okX1_become 47 rfl) 0 rfl rfl ?_
  refine J_aload_n (dk okX1_become 48 rfl) 1 rfl rfl ?_
  refine J_getI (dk okX1_become 49 rfl) kfX1_31 hp0.1 rfl ?_
  refine J_put (dk okX1_become 50 rfl) kpX1_31 hb.1 rfl rfl rfl ?_
  refine J_nm (fun μ5 eμ5 => ?_)
  refine J_aload_n (dk okX1_become 51 rfl) 0 rfl rfl ?_
  refine J_aload_n (dk okX1_become 52 rfl) 1 rfl rfl ?_
  refine J_getI (dk okX1_become 53 rfl) kfX1_34 hp0.1 rfl ?_
  refine J_put (dk okX1_become 54 rfl) kpX1_34 hb.1 rfl rfl rfl ?_
  refine J_nm (fun μ6 eμ6 => ?_)
  subst eμ6 eμ5 eμ4 er3 eμ1
  exact J_vret (dk okX1_become 55 rfl) rfl k
noncomputable def bd_X1_moment_4 (b : Nat) (μ : Mm) (x1 : Int32) (x2 : Int32) : (Int32 × Int32) ⊕ (Int32) := (if (μ.1 b 0) ≤ x2 then .inr x1 else .inl ((if (((μ.1 b 5) >>> (x2 &&& 31)) &&& 1) = 0 then (x1 + (((μ.1 (b + 1) (Int32.toNatClampNeg x2)) + (μ.1 (b + 4) (Int32.toNatClampNeg x2))) * (μ.1 (b + 3) (Int32.toNatClampNeg x2)))) else x1 : Int32), (x2 + 1)))
def sd_X1_moment_4 (b : Nat)  (μ : Mm) (x1 : Int32) (x2 : Int32) : Prop := (¬ ((μ.1 b 0) ≤ x2) → ((((μ.1 b 5) >>> (x2 &&& 31)) &&& 1) = 0 → (vp_in x2 7) ∧ (vp_in x2 7) ∧ vp_in x2 7))
set_option maxRecDepth 20000 in
set_option maxHeartbeats 4000000 in
theorem lw_X1_moment_4 {E : Ex} {G : Gx} {Q : Option Value → Mm → Prop} {b : Nat} {x1 : Int32} {x2 : Int32} {μ : Mm} (hb : FloorAt b) (p : whP (fun s : Int32 × Int32 => bd_X1_moment_4 b μ s.1 s.2) (fun s : Int32 × Int32 => sd_X1_moment_4 b  μ s.1 s.2) FU (x1, x2)) (k : ∀ r : Int32, r = whl (fun s : Int32 × Int32 => bd_X1_moment_4 b μ s.1 s.2) (fun _ : Int32 × Int32 => 0) FU (x1, x2) → J E G 1 mX1_moment Q 52 [(1, .int r)] [] μ) : J E G 1 mX1_moment Q 4 [(0, rf E b), (1, .int x1), (2, .int x2)] [] μ := by
  refine J_whl (f := (fun s : Int32 × Int32 => bd_X1_moment_4 b μ s.1 s.2)) (dd := (fun _ : Int32 × Int32 => 0)) (sd := (fun s : Int32 × Int32 => sd_X1_moment_4 b  μ s.1 s.2)) (P := fun s : Int32 × Int32 => J E G 1 mX1_moment Q 4 [(0, rf E b), (1, .int (s.1)), (2, .int (s.2))] [] (μ)) (R := fun r : Int32 => J E G 1 mX1_moment Q 52 [(1, .int r)] [] μ) ?_ FU (x1, x2) p (k _ rfl)
  clear p k
  rintro ⟨x1, x2⟩ t k1 k2
  dsimp only [sd_X1_moment_4] at t
  have kb : ∀ (y1 : Int32) (y2 : Int32) , bd_X1_moment_4 b μ x1 x2 = .inl (y1, y2) → J E G 1 mX1_moment Q 4 [(0, rf E b), (1, .int y1), (2, .int y2)] [] μ := fun y1 y2  h => k1 (y1, y2) h
  have kx : ∀ (y1 : Int32) , bd_X1_moment_4 b μ x1 x2 = .inr y1 → J E G 1 mX1_moment Q 52 [(1, .int y1)] [] μ := fun y1  h => k2 y1 h
  clear k1 k2
  refine J_iload_n (dk okX1_moment 4 rfl) 2 rfl rfl ?_
  refine J_aload_n (dk okX1_moment 5 rfl) 0 rfl rfl ?_
  refine J_getI (dk okX1_moment 6 rfl) kfX1_9 hb.1 rfl ?_
  refine J_icmp_ge (tgt := 52) (dk okX1_moment 7 rfl) (by decide) (fun h1 => ?_) (fun h1 => ?_)
  · exact J_sub [1] rfl (kx x1 (by unfold bd_X1_moment_4; first | (simp only [if_pos h1]; done) | (simp only [if_pos h1]; rfl) | rfl))
  · have t := t h1
    refine J_aload_n (dk okX1_moment 8 rfl) 0 rfl rfl ?_
    refine J_getI (dk okX1_moment 9 rfl) kfX1_28 hb.1 rfl ?_
    refine J_iload_n (dk okX1_moment 10 rfl) 2 rfl rfl ?_
    refine J_ishr (dk okX1_moment 11 rfl) ?_
    refine J_iconst (v := 1) (dk okX1_moment 12 rfl) (by decide) ?_
    refine J_iand (dk okX1_moment 13 rfl) ?_
    have K6 : J E G 1 mX1_moment Q 46 [(0, rf E b), (1, .int (if (((μ.1 b 5) >>> (x2 &&& 31)) &&& 1) = 0 then (x1 + (((μ.1 (b + 1) (Int32.toNatClampNeg x2)) + (μ.1 (b + 4) (Int32.toNatClampNeg x2))) * (μ.1 (b + 3) (Int32.toNatClampNeg x2)))) else x1 : Int32)), (2, .int x2)] [] μ := by
      refine J_iinc (v := (x2 + 1)) (ls' := [(2, _), (0, _), (1, _)]) (dk okX1_moment 32 rfl) 2 rfl rfl (by decide) rfl ?_
      refine J_goto (tgt := 4) (dk okX1_moment 33 rfl) (by decide) ?_
      exact J_sub [1, 2, 0] rfl (kb (if (((μ.1 b 5) >>> (x2 &&& 31)) &&& 1) = 0 then (x1 + (((μ.1 (b + 1) (Int32.toNatClampNeg x2)) + (μ.1 (b + 4) (Int32.toNatClampNeg x2))) * (μ.1 (b + 3) (Int32.toNatClampNeg x2)))) else x1 : Int32) (x2 + 1) (by unfold bd_X1_moment_4; first | (simp only [if_neg h1]; done) | (simp only [if_neg h1]; rfl) | rfl))
    refine J_if_ne (tgt := 46) (dk okX1_moment 14 rfl) (by decide) (fun h2 => ?_) (fun h2 => ?_)
    · refine J_sub (ls' := [(0, _), (1, _), (2, _)]) [0, 1, 2] rfl ?_
      (try simp only [if_neg h2] at K6 ⊢); exact K6
    · have t := t h2
      refine J_iload_n (dk okX1_moment 15 rfl) 1 rfl rfl ?_
      refine J_aload_n (dk okX1_moment 16 rfl) 0 rfl rfl ?_
      refine J_getR (dk okX1_moment 17 rfl) kfX1_15 hb.1 rfl ?_
      refine J_iload_n (dk okX1_moment 18 rfl) 2 rfl rfl ?_
      obtain ⟨s3, t⟩ := t
      refine J_iald (dk okX1_moment 19 rfl) hb.2.1 s3 ?_
      refine J_aload_n (dk okX1_moment 20 rfl) 0 rfl rfl ?_
      refine J_getR (dk okX1_moment 21 rfl) kfX1_25 hb.1 rfl ?_
      refine J_iload_n (dk okX1_moment 22 rfl) 2 rfl rfl ?_
      obtain ⟨s4, t⟩ := t
      refine J_iald (dk okX1_moment 23 rfl) hb.2.2.2.2.1 s4 ?_
      refine J_iadd (dk okX1_moment 24 rfl) ?_
      refine J_aload_n (dk okX1_moment 25 rfl) 0 rfl rfl ?_
      refine J_getR (dk okX1_moment 26 rfl) kfX1_22 hb.1 rfl ?_
      refine J_iload_n (dk okX1_moment 27 rfl) 2 rfl rfl ?_
      have s5 := t
      refine J_iald (dk okX1_moment 28 rfl) hb.2.2.2.1 s5 ?_
      refine J_imul (dk okX1_moment 29 rfl) ?_
      refine J_iadd (dk okX1_moment 30 rfl) ?_
      refine J_istore_n (ls' := [(1, _), (0, _), (2, _)]) (dk okX1_moment 31 rfl) rfl (by decide) rfl ?_
      refine J_sub (ls' := [(0, _), (1, _), (2, _)]) [1, 0, 2] rfl ?_
      (try simp only [if_pos h2] at K6 ⊢); exact K6
/-- VotingFloor$Floor.moment()I -/
noncomputable def v_X1_moment (b : Nat) (μ : Mm) : Int32 := (let r2 : Int32 := whl (fun s : Int32 × Int32 => bd_X1_moment_4 b μ s.1 s.2) (fun _ : Int32 × Int32 => 0) FU (0, 0); r2)
def p_X1_moment (b : Nat)  (μ : Mm) : Prop := whP (fun s : Int32 × Int32 => bd_X1_moment_4 b μ s.1 s.2) (fun s : Int32 × Int32 => sd_X1_moment_4 b  μ s.1 s.2) FU (0, 0)
set_option maxRecDepth 20000 in
set_option maxHeartbeats 4000000 in
theorem con_X1_moment {E : Ex} {Q : Option Value → Mm → Prop} {b : Nat} {μ : Mm} (hb : FloorAt b) (t : p_X1_moment b  μ) (k : Q (some (.int (v_X1_moment b μ))) μ) : Con E 1 mX1_moment [rf E b] μ Q := by
  refine Con_J (by decide +kernel) (Nat.le_of_ble_eq_true rfl) (fun G => ?_)
  unfold v_X1_moment at k
  unfold p_X1_moment at t
  refine J_sub (ls' := [(0, rf E b)]) [0] rfl ?_
  refine J_iconst (v := 0) (dk okX1_moment 0 rfl) (by decide) ?_
  refine J_istore_n (ls' := [(1, _), (0, _)]) (dk okX1_moment 1 rfl) rfl (by decide) rfl ?_
  refine J_iconst (v := 0) (dk okX1_moment 2 rfl) (by decide) ?_
  refine J_istore_n (ls' := [(2, _), (1, _), (0, _)]) (dk okX1_moment 3 rfl) rfl (by decide) rfl ?_
  have s1 := t
  refine J_sub (ls' := [(0, _), (1, _), (2, _)]) [2, 1, 0] rfl ?_
  refine lw_X1_moment_4 hb s1 (fun r2 er2 => ?_)
  refine J_iload_n (dk okX1_moment 34 rfl) 0 rfl rfl ?_
  subst er2
  exact J_iret (dk okX1_moment 35 rfl) rfl k
noncomputable def bd_X1_readFrom_16 (b : Nat) (p0 : Nat) (n0 : Nat) (x2 : Int32) (x3 : Int32) (μ : Mm) : (Int32 × Int32 × Mm) ⊕ (Int32 × Mm) := (if 7 ≤ x3 then .inr (x2, μ) else (let μ4 : Mm := (upI μ (b + 2) (Int32.toNatClampNeg x3) (μ.1 p0 (Int32.toNatClampNeg (x2 + (3 * x3))))); (let μ7 : Mm := (upI μ4 (b + 3) (Int32.toNatClampNeg x3) (μ4.1 p0 (Int32.toNatClampNeg ((x2 + (3 * x3)) + 1)))); (let μ10 : Mm := (upI μ7 (b + 4) (Int32.toNatClampNeg x3) (μ7.1 p0 (Int32.toNatClampNeg ((x2 + (3 * x3)) + 2)))); .inl (x2, (x3 + 1), μ10)))))
def sd_X1_readFrom_16 (b : Nat) (p0 : Nat) (n0 : Nat)  (x2 : Int32) (x3 : Int32) (μ : Mm) : Prop := (¬ (7 ≤ x3) → (vp_in (x2 + (3 * x3)) n0) ∧ (vp_in x3 7) ∧ (∀ μ4 : Mm, μ4 = (upI μ (b + 2) (Int32.toNatClampNeg x3) (μ.1 p0 (Int32.toNatClampNeg (x2 + (3 * x3))))) → (vp_in ((x2 + (3 * x3)) + 1) n0) ∧ (vp_in x3 7) ∧ (∀ μ7 : Mm, μ7 = (upI μ4 (b + 3) (Int32.toNatClampNeg x3) (μ4.1 p0 (Int32.toNatClampNeg ((x2 + (3 * x3)) + 1)))) → (vp_in ((x2 + (3 * x3)) + 2) n0) ∧ vp_in x3 7)))
set_option maxRecDepth 20000 in
set_option maxHeartbeats 4000000 in
theorem lw_X1_readFrom_16 {E : Ex} {G : Gx} {Q : Option Value → Mm → Prop} {b : Nat} {p0 : Nat} {n0 : Nat} {x2 : Int32} {x3 : Int32} {μ : Mm} (hb : FloorAt b) (hp0 : dscL[p0]? = some (.inr (.inl (1, n0)))) (p : whP (fun s : Int32 × Int32 × Mm => bd_X1_readFrom_16 b p0 n0 s.1 s.2.1 s.2.2) (fun s : Int32 × Int32 × Mm => sd_X1_readFrom_16 b p0 n0  s.1 s.2.1 s.2.2) FU (x2, x3, μ)) (k : ∀ r : Int32 × Mm, r = whl (fun s : Int32 × Int32 × Mm => bd_X1_readFrom_16 b p0 n0 s.1 s.2.1 s.2.2) (fun s : Int32 × Int32 × Mm => (0, s.2.2)) FU (x2, x3, μ) → J E G 1 mX1_readFrom Q 71 [(0, rf E b), (1, rf E p0), (2, .int (r.1))] [] (r.2)) : J E G 1 mX1_readFrom Q 16 [(0, rf E b), (1, rf E p0), (2, .int x2), (3, .int x3)] [] μ := by
  refine J_whl (f := (fun s : Int32 × Int32 × Mm => bd_X1_readFrom_16 b p0 n0 s.1 s.2.1 s.2.2)) (dd := (fun s : Int32 × Int32 × Mm => (0, s.2.2))) (sd := (fun s : Int32 × Int32 × Mm => sd_X1_readFrom_16 b p0 n0  s.1 s.2.1 s.2.2)) (P := fun s : Int32 × Int32 × Mm => J E G 1 mX1_readFrom Q 16 [(0, rf E b), (1, rf E p0), (2, .int (s.1)), (3, .int (s.2.1))] [] (s.2.2)) (R := fun r : Int32 × Mm => J E G 1 mX1_readFrom Q 71 [(0, rf E b), (1, rf E p0), (2, .int (r.1))] [] (r.2)) ?_ FU (x2, x3, μ) p (k _ rfl)
  clear p k
  rintro ⟨x2, x3, μ⟩ t k1 k2
  dsimp only [sd_X1_readFrom_16] at t
  have kb : ∀ (y2 : Int32) (y3 : Int32) (μ9 : Mm), bd_X1_readFrom_16 b p0 n0 x2 x3 μ = .inl (y2, y3, μ9) → J E G 1 mX1_readFrom Q 16 [(0, rf E b), (1, rf E p0), (2, .int y2), (3, .int y3)] [] μ9 := fun y2 y3 μ9 h => k1 (y2, y3, μ9) h
  have kx : ∀ (y2 : Int32) (μ9 : Mm), bd_X1_readFrom_16 b p0 n0 x2 x3 μ = .inr (y2, μ9) → J E G 1 mX1_readFrom Q 71 [(0, rf E b), (1, rf E p0), (2, .int y2)] [] μ9 := fun y2 μ9 h => k2 (y2, μ9) h
  clear k1 k2
  refine J_iload_n (dk okX1_readFrom 11 rfl) 3 rfl rfl ?_
  refine J_bipush (v := 7) (dk okX1_readFrom 12 rfl) (by decide) ?_
  refine J_icmp_ge (tgt := 71) (dk okX1_readFrom 13 rfl) (by decide) (fun h1 => ?_) (fun h1 => ?_)
  · exact J_sub [0, 1, 2] rfl (kx x2 μ (by unfold bd_X1_readFrom_16; first | (simp only [if_pos h1]; done) | (simp only [if_pos h1]; rfl) | rfl))
  · have t := t h1
    refine J_aload_n (dk okX1_readFrom 14 rfl) 0 rfl rfl ?_
    refine J_getR (dk okX1_readFrom 15 rfl) kfX1_19 hb.1 rfl ?_
    refine J_iload_n (dk okX1_readFrom 16 rfl) 3 rfl rfl ?_
    refine J_aload_n (dk okX1_readFrom 17 rfl) 1 rfl rfl ?_
    refine J_iload_n (dk okX1_readFrom 18 rfl) 2 rfl rfl ?_
    refine J_iconst (v := 3) (dk okX1_readFrom 19 rfl) (by decide) ?_
    refine J_iload_n (dk okX1_readFrom 20 rfl) 3 rfl rfl ?_
    refine J_imul (dk okX1_readFrom 21 rfl) ?_
    refine J_iadd (dk okX1_readFrom 22 rfl) ?_
    obtain ⟨s2, t⟩ := t
    refine J_iald (dk okX1_readFrom 23 rfl) hp0 s2 ?_
    obtain ⟨s3, t⟩ := t
    refine J_iast (dk okX1_readFrom 24 rfl) hb.2.2.1 s3 ?_
    refine J_nm (fun μ4 eμ4 => ?_)
    have t := t μ4 eμ4
    refine J_aload_n (dk okX1_readFrom 25 rfl) 0 rfl rfl ?_
    refine J_getR (dk okX1_readFrom 26 rfl) kfX1_22 hb.1 rfl ?_
    refine J_iload_n (dk okX1_readFrom 27 rfl) 3 rfl rfl ?_
    refine J_aload_n (dk okX1_readFrom 28 rfl) 1 rfl rfl ?_
    refine J_iload_n (dk okX1_readFrom 29 rfl) 2 rfl rfl ?_
    refine J_iconst (v := 3) (dk okX1_readFrom 30 rfl) (by decide) ?_
    refine J_iload_n (dk okX1_readFrom 31 rfl) 3 rfl rfl ?_
    refine J_imul (dk okX1_readFrom 32 rfl) ?_
    refine J_iadd (dk okX1_readFrom 33 rfl) ?_
    refine J_iconst (v := 1) (dk okX1_readFrom 34 rfl) (by decide) ?_
    refine J_iadd (dk okX1_readFrom 35 rfl) ?_
    obtain ⟨s5, t⟩ := t
    refine J_iald (dk okX1_readFrom 36 rfl) hp0 s5 ?_
    obtain ⟨s6, t⟩ := t
    refine J_iast (dk okX1_readFrom 37 rfl) hb.2.2.2.1 s6 ?_
    refine J_nm (fun μ7 eμ7 => ?_)
    have t := t μ7 eμ7
    refine J_aload_n (dk okX1_readFrom 38 rfl) 0 rfl rfl ?_
    refine J_getR (dk okX1_readFrom 39 rfl) kfX1_25 hb.1 rfl ?_
    refine J_iload_n (dk okX1_readFrom 40 rfl) 3 rfl rfl ?_
    refine J_aload_n (dk okX1_readFrom 41 rfl) 1 rfl rfl ?_
    refine J_iload_n (dk okX1_readFrom 42 rfl) 2 rfl rfl ?_
    refine J_iconst (v := 3) (dk okX1_readFrom 43 rfl) (by decide) ?_
    refine J_iload_n (dk okX1_readFrom 44 rfl) 3 rfl rfl ?_
    refine J_imul (dk okX1_readFrom 45 rfl) ?_
    refine J_iadd (dk okX1_readFrom 46 rfl) ?_
    refine J_iconst (v := 2) (dk okX1_readFrom 47 rfl) (by decide) ?_
    refine J_iadd (dk okX1_readFrom 48 rfl) ?_
    obtain ⟨s8, t⟩ := t
    refine J_iald (dk okX1_readFrom 49 rfl) hp0 s8 ?_
    have s9 := t
    refine J_iast (dk okX1_readFrom 50 rfl) hb.2.2.2.2.1 s9 ?_
    refine J_nm (fun μ10 eμ10 => ?_)
    refine J_iinc (v := (x3 + 1)) (ls' := [(3, _), (0, _), (1, _), (2, _)]) (dk okX1_readFrom 51 rfl) 3 rfl rfl (by decide) rfl ?_
    refine J_goto (tgt := 16) (dk okX1_readFrom 52 rfl) (by decide) ?_
    exact J_sub [1, 2, 3, 0] rfl (kb x2 (x3 + 1) μ10 (by subst eμ10 eμ7 eμ4; unfold bd_X1_readFrom_16; first | (simp only [if_neg h1]; done) | (simp only [if_neg h1]; rfl) | rfl))
/-- VotingFloor$Floor.readFrom([II)V -/
noncomputable def e_X1_readFrom (b : Nat) (p0 : Nat) (n0 : Nat) (p1 : Int32) (μ : Mm) : Mm := (if p1 < 0 then μ else (if (p1 + 24) ≤ (Int32.ofNat n0) then (let r4 : Int32 × Mm := whl (fun s : Int32 × Int32 × Mm => bd_X1_readFrom_16 b p0 n0 s.1 s.2.1 s.2.2) (fun s : Int32 × Int32 × Mm => (0, s.2.2)) FU (p1, 0, μ); (let μ6 : Mm := (upI (r4.2) b 5 ((r4.2).1 p0 (Int32.toNatClampNeg (((r4.1) + 24) - 3)))); (let μ8 : Mm := (upI μ6 b 6 (μ6.1 p0 (Int32.toNatClampNeg (((r4.1) + 24) - 2)))); (let μ10 : Mm := (upI μ8 b 7 (μ8.1 p0 (Int32.toNatClampNeg (((r4.1) + 24) - 1)))); μ10)))) else μ))
def p_X1_readFrom (b : Nat) (p0 : Nat) (n0 : Nat) (p1 : Int32)  (μ : Mm) : Prop := (¬ (p1 < 0) → ((p1 + 24) ≤ (Int32.ofNat n0) → (whP (fun s : Int32 × Int32 × Mm => bd_X1_readFrom_16 b p0 n0 s.1 s.2.1 s.2.2) (fun s : Int32 × Int32 × Mm => sd_X1_readFrom_16 b p0 n0  s.1 s.2.1 s.2.2) FU (p1, 0, μ)) ∧ (∀ r4 : Int32 × Mm, r4 = whl (fun s : Int32 × Int32 × Mm => bd_X1_readFrom_16 b p0 n0 s.1 s.2.1 s.2.2) (fun s : Int32 × Int32 × Mm => (0, s.2.2)) FU (p1, 0, μ) → (vp_in (((r4.1) + 24) - 3) n0) ∧ (∀ μ6 : Mm, μ6 = (upI (r4.2) b 5 ((r4.2).1 p0 (Int32.toNatClampNeg (((r4.1) + 24) - 3)))) → (vp_in (((r4.1) + 24) - 2) n0) ∧ (∀ μ8 : Mm, μ8 = (upI μ6 b 6 (μ6.1 p0 (Int32.toNatClampNeg (((r4.1) + 24) - 2)))) → vp_in (((r4.1) + 24) - 1) n0)))))
set_option maxRecDepth 20000 in
set_option maxHeartbeats 4000000 in
theorem con_X1_readFrom {E : Ex} {Q : Option Value → Mm → Prop} {b : Nat} {p0 : Nat} {n0 : Nat} {p1 : Int32} {μ : Mm} (hb : FloorAt b) (hp0 : dscL[p0]? = some (.inr (.inl (1, n0)))) (t : p_X1_readFrom b p0 n0 p1  μ) (k : Q none (e_X1_readFrom b p0 n0 p1 μ)) : Con E 1 mX1_readFrom [rf E b, rf E p0, .int p1] μ Q := by
  refine Con_J (by decide +kernel) (Nat.le_of_ble_eq_true rfl) (fun G => ?_)
  unfold e_X1_readFrom at k
  unfold p_X1_readFrom at t
  refine J_sub (ls' := [(0, rf E b), (1, rf E p0), (2, .int p1)]) [0, 1, 2] rfl ?_
  refine J_iload_n (dk okX1_readFrom 0 rfl) 2 rfl rfl ?_
  refine J_if_lt (tgt := 13) (dk okX1_readFrom 1 rfl) (by decide) (fun h1 => ?_) (fun h1 => ?_)
  · (try simp only [if_pos h1] at k ⊢)
    exact J_vret (dk okX1_readFrom 8 rfl) rfl k
  · have t := t h1
    refine J_iload_n (dk okX1_readFrom 2 rfl) 2 rfl rfl ?_
    refine J_bipush (v := 24) (dk okX1_readFrom 3 rfl) (by decide) ?_
    refine J_iadd (dk okX1_readFrom 4 rfl) ?_
    refine J_aload_n (dk okX1_readFrom 5 rfl) 1 rfl rfl ?_
    refine J_alen (by decide) (by decide) (dk okX1_readFrom 6 rfl) hp0 ?_
    refine J_icmp_le (tgt := 14) (dk okX1_readFrom 7 rfl) (by decide) (fun h2 => ?_) (fun h2 => ?_)
    · have t := t h2
      refine J_iconst (v := 0) (dk okX1_readFrom 9 rfl) (by decide) ?_
      refine J_istore_n (ls' := [(3, _), (0, _), (1, _), (2, _)]) (dk okX1_readFrom 10 rfl) rfl (by decide) rfl ?_
      obtain ⟨s3, t⟩ := t
      refine J_sub (ls' := [(0, _), (1, _), (2, _), (3, _)]) [1, 2, 3, 0] rfl ?_
      refine lw_X1_readFrom_16 hb hp0 s3 (fun r4 er4 => ?_)
      have t := t r4 er4
      refine J_aload_n (dk okX1_readFrom 53 rfl) 0 rfl rfl ?_
      refine J_aload_n (dk okX1_readFrom 54 rfl) 1 rfl rfl ?_
      refine J_iload_n (dk okX1_readFrom 55 rfl) 2 rfl rfl ?_
      refine J_bipush (v := 24) (dk okX1_readFrom 56 rfl) (by decide) ?_
      refine J_iadd (dk okX1_readFrom 57 rfl) ?_
      refine J_iconst (v := 3) (dk okX1_readFrom 58 rfl) (by decide) ?_
      refine J_isub (dk okX1_readFrom 59 rfl) ?_
      obtain ⟨s5, t⟩ := t
      refine J_iald (dk okX1_readFrom 60 rfl) hp0 s5 ?_
      refine J_put (dk okX1_readFrom 61 rfl) kpX1_28 hb.1 rfl rfl rfl ?_
      refine J_nm (fun μ6 eμ6 => ?_)
      have t := t μ6 eμ6
      refine J_aload_n (dk okX1_readFrom 62 rfl) 0 rfl rfl ?_
      refine J_aload_n (dk okX1_readFrom 63 rfl) 1 rfl rfl ?_
      refine J_iload_n (dk okX1_readFrom 64 rfl) 2 rfl rfl ?_
      refine J_bipush (v := 24) (dk okX1_readFrom 65 rfl) (by decide) ?_
      refine J_iadd (dk okX1_readFrom 66 rfl) ?_
      refine J_iconst (v := 2) (dk okX1_readFrom 67 rfl) (by decide) ?_
      refine J_isub (dk okX1_readFrom 68 rfl) ?_
      obtain ⟨s7, t⟩ := t
      refine J_iald (dk okX1_readFrom 69 rfl) hp0 s7 ?_
      refine J_put (dk okX1_readFrom 70 rfl) kpX1_31 hb.1 rfl rfl rfl ?_
      refine J_nm (fun μ8 eμ8 => ?_)
      have t := t μ8 eμ8
      refine J_aload_n (dk okX1_readFrom 71 rfl) 0 rfl rfl ?_
      refine J_aload_n (dk okX1_readFrom 72 rfl) 1 rfl rfl ?_
      refine J_iload_n (dk okX1_readFrom 73 rfl) 2 rfl rfl ?_
      refine J_bipush (v := 24) (dk okX1_readFrom 74 rfl) (by decide) ?_
      refine J_iadd (dk okX1_readFrom 75 rfl) ?_
      refine J_iconst (v := 1) (dk okX1_readFrom 76 rfl) (by decide) ?_
      refine J_isub (dk okX1_readFrom 77 rfl) ?_
      have s9 := t
      refine J_iald (dk okX1_readFrom 78 rfl) hp0 s9 ?_
      refine J_put (dk okX1_readFrom 79 rfl) kpX1_34 hb.1 rfl rfl rfl ?_
      refine J_nm (fun μ10 eμ10 => ?_)
      subst eμ10 eμ8 eμ6 er4
      (try simp only [if_neg h1, if_pos h2] at k ⊢)
      exact J_vret (dk okX1_readFrom 80 rfl) rfl k
    · (try simp only [if_neg h1, if_neg h2] at k ⊢)
      exact J_vret (dk okX1_readFrom 8 rfl) rfl k
noncomputable def bd_X1_writeTo_16 (b : Nat) (p0 : Nat) (n0 : Nat) (x2 : Int32) (x3 : Int32) (μ : Mm) : (Int32 × Int32 × Mm) ⊕ (Int32 × Mm) := (if 7 ≤ x3 then .inr (x2, μ) else (let μ4 : Mm := (upI μ p0 (Int32.toNatClampNeg (x2 + (3 * x3))) (μ.1 (b + 2) (Int32.toNatClampNeg x3))); (let μ7 : Mm := (upI μ4 p0 (Int32.toNatClampNeg ((x2 + (3 * x3)) + 1)) (μ4.1 (b + 3) (Int32.toNatClampNeg x3))); (let μ10 : Mm := (upI μ7 p0 (Int32.toNatClampNeg ((x2 + (3 * x3)) + 2)) (μ7.1 (b + 4) (Int32.toNatClampNeg x3))); .inl (x2, (x3 + 1), μ10)))))
def sd_X1_writeTo_16 (b : Nat) (p0 : Nat) (n0 : Nat)  (x2 : Int32) (x3 : Int32) (μ : Mm) : Prop := (¬ (7 ≤ x3) → (vp_in x3 7) ∧ (vp_in (x2 + (3 * x3)) n0) ∧ (∀ μ4 : Mm, μ4 = (upI μ p0 (Int32.toNatClampNeg (x2 + (3 * x3))) (μ.1 (b + 2) (Int32.toNatClampNeg x3))) → (vp_in x3 7) ∧ (vp_in ((x2 + (3 * x3)) + 1) n0) ∧ (∀ μ7 : Mm, μ7 = (upI μ4 p0 (Int32.toNatClampNeg ((x2 + (3 * x3)) + 1)) (μ4.1 (b + 3) (Int32.toNatClampNeg x3))) → (vp_in x3 7) ∧ vp_in ((x2 + (3 * x3)) + 2) n0)))
set_option maxRecDepth 20000 in
set_option maxHeartbeats 4000000 in
theorem lw_X1_writeTo_16 {E : Ex} {G : Gx} {Q : Option Value → Mm → Prop} {b : Nat} {p0 : Nat} {n0 : Nat} {x2 : Int32} {x3 : Int32} {μ : Mm} (hb : FloorAt b) (hp0 : dscL[p0]? = some (.inr (.inl (1, n0)))) (p : whP (fun s : Int32 × Int32 × Mm => bd_X1_writeTo_16 b p0 n0 s.1 s.2.1 s.2.2) (fun s : Int32 × Int32 × Mm => sd_X1_writeTo_16 b p0 n0  s.1 s.2.1 s.2.2) FU (x2, x3, μ)) (k : ∀ r : Int32 × Mm, r = whl (fun s : Int32 × Int32 × Mm => bd_X1_writeTo_16 b p0 n0 s.1 s.2.1 s.2.2) (fun s : Int32 × Int32 × Mm => (0, s.2.2)) FU (x2, x3, μ) → J E G 1 mX1_writeTo Q 71 [(0, rf E b), (1, rf E p0), (2, .int (r.1))] [] (r.2)) : J E G 1 mX1_writeTo Q 16 [(0, rf E b), (1, rf E p0), (2, .int x2), (3, .int x3)] [] μ := by
  refine J_whl (f := (fun s : Int32 × Int32 × Mm => bd_X1_writeTo_16 b p0 n0 s.1 s.2.1 s.2.2)) (dd := (fun s : Int32 × Int32 × Mm => (0, s.2.2))) (sd := (fun s : Int32 × Int32 × Mm => sd_X1_writeTo_16 b p0 n0  s.1 s.2.1 s.2.2)) (P := fun s : Int32 × Int32 × Mm => J E G 1 mX1_writeTo Q 16 [(0, rf E b), (1, rf E p0), (2, .int (s.1)), (3, .int (s.2.1))] [] (s.2.2)) (R := fun r : Int32 × Mm => J E G 1 mX1_writeTo Q 71 [(0, rf E b), (1, rf E p0), (2, .int (r.1))] [] (r.2)) ?_ FU (x2, x3, μ) p (k _ rfl)
  clear p k
  rintro ⟨x2, x3, μ⟩ t k1 k2
  dsimp only [sd_X1_writeTo_16] at t
  have kb : ∀ (y2 : Int32) (y3 : Int32) (μ9 : Mm), bd_X1_writeTo_16 b p0 n0 x2 x3 μ = .inl (y2, y3, μ9) → J E G 1 mX1_writeTo Q 16 [(0, rf E b), (1, rf E p0), (2, .int y2), (3, .int y3)] [] μ9 := fun y2 y3 μ9 h => k1 (y2, y3, μ9) h
  have kx : ∀ (y2 : Int32) (μ9 : Mm), bd_X1_writeTo_16 b p0 n0 x2 x3 μ = .inr (y2, μ9) → J E G 1 mX1_writeTo Q 71 [(0, rf E b), (1, rf E p0), (2, .int y2)] [] μ9 := fun y2 μ9 h => k2 (y2, μ9) h
  clear k1 k2
  refine J_iload_n (dk okX1_writeTo 11 rfl) 3 rfl rfl ?_
  refine J_bipush (v := 7) (dk okX1_writeTo 12 rfl) (by decide) ?_
  refine J_icmp_ge (tgt := 71) (dk okX1_writeTo 13 rfl) (by decide) (fun h1 => ?_) (fun h1 => ?_)
  · exact J_sub [0, 1, 2] rfl (kx x2 μ (by unfold bd_X1_writeTo_16; first | (simp only [if_pos h1]; done) | (simp only [if_pos h1]; rfl) | rfl))
  · have t := t h1
    refine J_aload_n (dk okX1_writeTo 14 rfl) 1 rfl rfl ?_
    refine J_iload_n (dk okX1_writeTo 15 rfl) 2 rfl rfl ?_
    refine J_iconst (v := 3) (dk okX1_writeTo 16 rfl) (by decide) ?_
    refine J_iload_n (dk okX1_writeTo 17 rfl) 3 rfl rfl ?_
    refine J_imul (dk okX1_writeTo 18 rfl) ?_
    refine J_iadd (dk okX1_writeTo 19 rfl) ?_
    refine J_aload_n (dk okX1_writeTo 20 rfl) 0 rfl rfl ?_
    refine J_getR (dk okX1_writeTo 21 rfl) kfX1_19 hb.1 rfl ?_
    refine J_iload_n (dk okX1_writeTo 22 rfl) 3 rfl rfl ?_
    obtain ⟨s2, t⟩ := t
    refine J_iald (dk okX1_writeTo 23 rfl) hb.2.2.1 s2 ?_
    obtain ⟨s3, t⟩ := t
    refine J_iast (dk okX1_writeTo 24 rfl) hp0 s3 ?_
    refine J_nm (fun μ4 eμ4 => ?_)
    have t := t μ4 eμ4
    refine J_aload_n (dk okX1_writeTo 25 rfl) 1 rfl rfl ?_
    refine J_iload_n (dk okX1_writeTo 26 rfl) 2 rfl rfl ?_
    refine J_iconst (v := 3) (dk okX1_writeTo 27 rfl) (by decide) ?_
    refine J_iload_n (dk okX1_writeTo 28 rfl) 3 rfl rfl ?_
    refine J_imul (dk okX1_writeTo 29 rfl) ?_
    refine J_iadd (dk okX1_writeTo 30 rfl) ?_
    refine J_iconst (v := 1) (dk okX1_writeTo 31 rfl) (by decide) ?_
    refine J_iadd (dk okX1_writeTo 32 rfl) ?_
    refine J_aload_n (dk okX1_writeTo 33 rfl) 0 rfl rfl ?_
    refine J_getR (dk okX1_writeTo 34 rfl) kfX1_22 hb.1 rfl ?_
    refine J_iload_n (dk okX1_writeTo 35 rfl) 3 rfl rfl ?_
    obtain ⟨s5, t⟩ := t
    refine J_iald (dk okX1_writeTo 36 rfl) hb.2.2.2.1 s5 ?_
    obtain ⟨s6, t⟩ := t
    refine J_iast (dk okX1_writeTo 37 rfl) hp0 s6 ?_
    refine J_nm (fun μ7 eμ7 => ?_)
    have t := t μ7 eμ7
    refine J_aload_n (dk okX1_writeTo 38 rfl) 1 rfl rfl ?_
    refine J_iload_n (dk okX1_writeTo 39 rfl) 2 rfl rfl ?_
    refine J_iconst (v := 3) (dk okX1_writeTo 40 rfl) (by decide) ?_
    refine J_iload_n (dk okX1_writeTo 41 rfl) 3 rfl rfl ?_
    refine J_imul (dk okX1_writeTo 42 rfl) ?_
    refine J_iadd (dk okX1_writeTo 43 rfl) ?_
    refine J_iconst (v := 2) (dk okX1_writeTo 44 rfl) (by decide) ?_
    refine J_iadd (dk okX1_writeTo 45 rfl) ?_
    refine J_aload_n (dk okX1_writeTo 46 rfl) 0 rfl rfl ?_
    refine J_getR (dk okX1_writeTo 47 rfl) kfX1_25 hb.1 rfl ?_
    refine J_iload_n (dk okX1_writeTo 48 rfl) 3 rfl rfl ?_
    obtain ⟨s8, t⟩ := t
    refine J_iald (dk okX1_writeTo 49 rfl) hb.2.2.2.2.1 s8 ?_
    have s9 := t
    refine J_iast (dk okX1_writeTo 50 rfl) hp0 s9 ?_
    refine J_nm (fun μ10 eμ10 => ?_)
    refine J_iinc (v := (x3 + 1)) (ls' := [(3, _), (0, _), (1, _), (2, _)]) (dk okX1_writeTo 51 rfl) 3 rfl rfl (by decide) rfl ?_
    refine J_goto (tgt := 16) (dk okX1_writeTo 52 rfl) (by decide) ?_
    exact J_sub [1, 2, 3, 0] rfl (kb x2 (x3 + 1) μ10 (by subst eμ10 eμ7 eμ4; unfold bd_X1_writeTo_16; first | (simp only [if_neg h1]; done) | (simp only [if_neg h1]; rfl) | rfl))
/-- VotingFloor$Floor.writeTo([II)V -/
noncomputable def e_X1_writeTo (b : Nat) (p0 : Nat) (n0 : Nat) (p1 : Int32) (μ : Mm) : Mm := (if p1 < 0 then μ else (if (p1 + 24) ≤ (Int32.ofNat n0) then (let r4 : Int32 × Mm := whl (fun s : Int32 × Int32 × Mm => bd_X1_writeTo_16 b p0 n0 s.1 s.2.1 s.2.2) (fun s : Int32 × Int32 × Mm => (0, s.2.2)) FU (p1, 0, μ); (let μ6 : Mm := (upI (r4.2) p0 (Int32.toNatClampNeg (((r4.1) + 24) - 3)) ((r4.2).1 b 5)); (let μ8 : Mm := (upI μ6 p0 (Int32.toNatClampNeg (((r4.1) + 24) - 2)) (μ6.1 b 6)); (let μ10 : Mm := (upI μ8 p0 (Int32.toNatClampNeg (((r4.1) + 24) - 1)) (μ8.1 b 7)); μ10)))) else μ))
def p_X1_writeTo (b : Nat) (p0 : Nat) (n0 : Nat) (p1 : Int32)  (μ : Mm) : Prop := (¬ (p1 < 0) → ((p1 + 24) ≤ (Int32.ofNat n0) → (whP (fun s : Int32 × Int32 × Mm => bd_X1_writeTo_16 b p0 n0 s.1 s.2.1 s.2.2) (fun s : Int32 × Int32 × Mm => sd_X1_writeTo_16 b p0 n0  s.1 s.2.1 s.2.2) FU (p1, 0, μ)) ∧ (∀ r4 : Int32 × Mm, r4 = whl (fun s : Int32 × Int32 × Mm => bd_X1_writeTo_16 b p0 n0 s.1 s.2.1 s.2.2) (fun s : Int32 × Int32 × Mm => (0, s.2.2)) FU (p1, 0, μ) → (vp_in (((r4.1) + 24) - 3) n0) ∧ (∀ μ6 : Mm, μ6 = (upI (r4.2) p0 (Int32.toNatClampNeg (((r4.1) + 24) - 3)) ((r4.2).1 b 5)) → (vp_in (((r4.1) + 24) - 2) n0) ∧ (∀ μ8 : Mm, μ8 = (upI μ6 p0 (Int32.toNatClampNeg (((r4.1) + 24) - 2)) (μ6.1 b 6)) → vp_in (((r4.1) + 24) - 1) n0)))))
set_option maxRecDepth 20000 in
set_option maxHeartbeats 4000000 in
theorem con_X1_writeTo {E : Ex} {Q : Option Value → Mm → Prop} {b : Nat} {p0 : Nat} {n0 : Nat} {p1 : Int32} {μ : Mm} (hb : FloorAt b) (hp0 : dscL[p0]? = some (.inr (.inl (1, n0)))) (t : p_X1_writeTo b p0 n0 p1  μ) (k : Q none (e_X1_writeTo b p0 n0 p1 μ)) : Con E 1 mX1_writeTo [rf E b, rf E p0, .int p1] μ Q := by
  refine Con_J (by decide +kernel) (Nat.le_of_ble_eq_true rfl) (fun G => ?_)
  unfold e_X1_writeTo at k
  unfold p_X1_writeTo at t
  refine J_sub (ls' := [(0, rf E b), (1, rf E p0), (2, .int p1)]) [0, 1, 2] rfl ?_
  refine J_iload_n (dk okX1_writeTo 0 rfl) 2 rfl rfl ?_
  refine J_if_lt (tgt := 13) (dk okX1_writeTo 1 rfl) (by decide) (fun h1 => ?_) (fun h1 => ?_)
  · (try simp only [if_pos h1] at k ⊢)
    exact J_vret (dk okX1_writeTo 8 rfl) rfl k
  · have t := t h1
    refine J_iload_n (dk okX1_writeTo 2 rfl) 2 rfl rfl ?_
    refine J_bipush (v := 24) (dk okX1_writeTo 3 rfl) (by decide) ?_
    refine J_iadd (dk okX1_writeTo 4 rfl) ?_
    refine J_aload_n (dk okX1_writeTo 5 rfl) 1 rfl rfl ?_
    refine J_alen (by decide) (by decide) (dk okX1_writeTo 6 rfl) hp0 ?_
    refine J_icmp_le (tgt := 14) (dk okX1_writeTo 7 rfl) (by decide) (fun h2 => ?_) (fun h2 => ?_)
    · have t := t h2
      refine J_iconst (v := 0) (dk okX1_writeTo 9 rfl) (by decide) ?_
      refine J_istore_n (ls' := [(3, _), (0, _), (1, _), (2, _)]) (dk okX1_writeTo 10 rfl) rfl (by decide) rfl ?_
      obtain ⟨s3, t⟩ := t
      refine J_sub (ls' := [(0, _), (1, _), (2, _), (3, _)]) [1, 2, 3, 0] rfl ?_
      refine lw_X1_writeTo_16 hb hp0 s3 (fun r4 er4 => ?_)
      have t := t r4 er4
      refine J_aload_n (dk okX1_writeTo 53 rfl) 1 rfl rfl ?_
      refine J_iload_n (dk okX1_writeTo 54 rfl) 2 rfl rfl ?_
      refine J_bipush (v := 24) (dk okX1_writeTo 55 rfl) (by decide) ?_
      refine J_iadd (dk okX1_writeTo 56 rfl) ?_
      refine J_iconst (v := 3) (dk okX1_writeTo 57 rfl) (by decide) ?_
      refine J_isub (dk okX1_writeTo 58 rfl) ?_
      refine J_aload_n (dk okX1_writeTo 59 rfl) 0 rfl rfl ?_
      refine J_getI (dk okX1_writeTo 60 rfl) kfX1_28 hb.1 rfl ?_
      obtain ⟨s5, t⟩ := t
      refine J_iast (dk okX1_writeTo 61 rfl) hp0 s5 ?_
      refine J_nm (fun μ6 eμ6 => ?_)
      have t := t μ6 eμ6
      refine J_aload_n (dk okX1_writeTo 62 rfl) 1 rfl rfl ?_
      refine J_iload_n (dk okX1_writeTo 63 rfl) 2 rfl rfl ?_
      refine J_bipush (v := 24) (dk okX1_writeTo 64 rfl) (by decide) ?_
      refine J_iadd (dk okX1_writeTo 65 rfl) ?_
      refine J_iconst (v := 2) (dk okX1_writeTo 66 rfl) (by decide) ?_
      refine J_isub (dk okX1_writeTo 67 rfl) ?_
      refine J_aload_n (dk okX1_writeTo 68 rfl) 0 rfl rfl ?_
      refine J_getI (dk okX1_writeTo 69 rfl) kfX1_31 hb.1 rfl ?_
      obtain ⟨s7, t⟩ := t
      refine J_iast (dk okX1_writeTo 70 rfl) hp0 s7 ?_
      refine J_nm (fun μ8 eμ8 => ?_)
      have t := t μ8 eμ8
      refine J_aload_n (dk okX1_writeTo 71 rfl) 1 rfl rfl ?_
      refine J_iload_n (dk okX1_writeTo 72 rfl) 2 rfl rfl ?_
      refine J_bipush (v := 24) (dk okX1_writeTo 73 rfl) (by decide) ?_
      refine J_iadd (dk okX1_writeTo 74 rfl) ?_
      refine J_iconst (v := 1) (dk okX1_writeTo 75 rfl) (by decide) ?_
      refine J_isub (dk okX1_writeTo 76 rfl) ?_
      refine J_aload_n (dk okX1_writeTo 77 rfl) 0 rfl rfl ?_
      refine J_getI (dk okX1_writeTo 78 rfl) kfX1_34 hb.1 rfl ?_
      have s9 := t
      refine J_iast (dk okX1_writeTo 79 rfl) hp0 s9 ?_
      refine J_nm (fun μ10 eμ10 => ?_)
      subst eμ10 eμ8 eμ6 er4
      (try simp only [if_neg h1, if_pos h2] at k ⊢)
      exact J_vret (dk okX1_writeTo 80 rfl) rfl k
    · (try simp only [if_neg h1, if_neg h2] at k ⊢)
      exact J_vret (dk okX1_writeTo 8 rfl) rfl k
noncomputable def bd_X3_loseAll_7  (x1 : Int32) (μ : Mm) : (Int32 × Mm) ⊕ (Mm) := (if 3 ≤ x1 then .inr μ else (let μ3 : Mm := (upI μ 32 (Int32.toNatClampNeg x1) (vp_nar .boolean 0)); .inl ((x1 + 1), μ3)))
def sd_X3_loseAll_7   (x1 : Int32) (μ : Mm) : Prop := (¬ (3 ≤ x1) → vp_in x1 3)
set_option maxRecDepth 20000 in
set_option maxHeartbeats 4000000 in
theorem lw_X3_loseAll_7 {E : Ex} {G : Gx} {Q : Option Value → Mm → Prop} {x1 : Int32} {μ : Mm}  (p : whP (fun s : Int32 × Mm => bd_X3_loseAll_7  s.1 s.2) (fun s : Int32 × Mm => sd_X3_loseAll_7   s.1 s.2) FU (x1, μ)) (k : ∀ r : Mm, r = whl (fun s : Int32 × Mm => bd_X3_loseAll_7  s.1 s.2) (fun s : Int32 × Mm => s.2) FU (x1, μ) → J E G 1 mX3_loseAll Q 25 [] [] r) : J E G 1 mX3_loseAll Q 7 [(0, rf E 29), (1, .int x1)] [] μ := by
  refine J_whl (f := (fun s : Int32 × Mm => bd_X3_loseAll_7  s.1 s.2)) (dd := (fun s : Int32 × Mm => s.2)) (sd := (fun s : Int32 × Mm => sd_X3_loseAll_7   s.1 s.2)) (P := fun s : Int32 × Mm => J E G 1 mX3_loseAll Q 7 [(0, rf E 29), (1, .int (s.1))] [] (s.2)) (R := fun r : Mm => J E G 1 mX3_loseAll Q 25 [] [] r) ?_ FU (x1, μ) p (k _ rfl)
  clear p k
  rintro ⟨x1, μ⟩ t k1 k2
  dsimp only [sd_X3_loseAll_7] at t
  have kb : ∀ (y1 : Int32) (μ9 : Mm), bd_X3_loseAll_7  x1 μ = .inl (y1, μ9) → J E G 1 mX3_loseAll Q 7 [(0, rf E 29), (1, .int y1)] [] μ9 := fun y1 μ9 h => k1 (y1, μ9) h
  have kx : ∀  (μ9 : Mm), bd_X3_loseAll_7  x1 μ = .inr μ9 → J E G 1 mX3_loseAll Q 25 [] [] μ9 := fun  μ9 h => k2 μ9 h
  clear k1 k2
  refine J_iload_n (dk okX3_loseAll 5 rfl) 1 rfl rfl ?_
  refine J_iconst (v := 3) (dk okX3_loseAll 6 rfl) (by decide) ?_
  refine J_icmp_ge (tgt := 25) (dk okX3_loseAll 7 rfl) (by decide) (fun h1 => ?_) (fun h1 => ?_)
  · exact J_sub [] rfl (kx μ (by unfold bd_X3_loseAll_7; first | (simp only [if_pos h1]; done) | (simp only [if_pos h1]; rfl) | rfl))
  · have t := t h1
    refine J_aload_n (dk okX3_loseAll 8 rfl) 0 rfl rfl ?_
    refine J_getR (dk okX3_loseAll 9 rfl) kfX3_25 ds_29 rfl ?_
    refine J_iload_n (dk okX3_loseAll 10 rfl) 1 rfl rfl ?_
    refine J_iconst (v := 0) (dk okX3_loseAll 11 rfl) (by decide) ?_
    have s2 := t
    refine J_zast (dk okX3_loseAll 12 rfl) ds_32 s2 ?_
    refine J_nm (fun μ3 eμ3 => ?_)
    refine J_iinc (v := (x1 + 1)) (ls' := [(1, _), (0, _)]) (dk okX3_loseAll 13 rfl) 1 rfl rfl (by decide) rfl ?_
    refine J_goto (tgt := 7) (dk okX3_loseAll 14 rfl) (by decide) ?_
    exact J_sub [1, 0] rfl (kb (x1 + 1) μ3 (by subst eμ3; unfold bd_X3_loseAll_7; first | (simp only [if_neg h1]; done) | (simp only [if_neg h1]; rfl) | rfl))
/-- VotingFloor$Past.loseAll()V -/
noncomputable def e_X3_loseAll  (μ : Mm) : Mm := (let μ1 : Mm := (upI μ 29 2 0); (let r3 : Mm := whl (fun s : Int32 × Mm => bd_X3_loseAll_7  s.1 s.2) (fun s : Int32 × Mm => s.2) FU (0, μ1); r3))
def p_X3_loseAll   (μ : Mm) : Prop := (∀ μ1 : Mm, μ1 = (upI μ 29 2 0) → whP (fun s : Int32 × Mm => bd_X3_loseAll_7  s.1 s.2) (fun s : Int32 × Mm => sd_X3_loseAll_7   s.1 s.2) FU (0, μ1))
set_option maxRecDepth 20000 in
set_option maxHeartbeats 4000000 in
theorem con_X3_loseAll {E : Ex} {Q : Option Value → Mm → Prop} {μ : Mm} (t : p_X3_loseAll   μ) (k : Q none (e_X3_loseAll  μ)) : Con E 1 mX3_loseAll [rf E 29] μ Q := by
  refine Con_J (by decide +kernel) (Nat.le_of_ble_eq_true rfl) (fun G => ?_)
  unfold e_X3_loseAll at k
  unfold p_X3_loseAll at t
  refine J_sub (ls' := [(0, rf E 29)]) [0] rfl ?_
  refine J_aload_n (dk okX3_loseAll 0 rfl) 0 rfl rfl ?_
  refine J_iconst (v := 0) (dk okX3_loseAll 1 rfl) (by decide) ?_
  refine J_put (dk okX3_loseAll 2 rfl) kpX3_19 ds_29 rfl rfl rfl ?_
  refine J_nm (fun μ1 eμ1 => ?_)
  have t := t μ1 eμ1
  refine J_iconst (v := 0) (dk okX3_loseAll 3 rfl) (by decide) ?_
  refine J_istore_n (ls' := [(1, _), (0, _)]) (dk okX3_loseAll 4 rfl) rfl (by decide) rfl ?_
  have s2 := t
  refine J_sub (ls' := [(0, _), (1, _)]) [1, 0] rfl ?_
  refine lw_X3_loseAll_7  s2 (fun r3 er3 => ?_)
  subst er3 eμ1
  exact J_vret (dk okX3_loseAll 15 rfl) rfl k
noncomputable def bd_X5_become_2 (b : Nat) (p0 : Nat) (x2 : Int32) (μ : Mm) : (Int32 × Mm) ⊕ (Mm) := (if (μ.1 p0 1) ≤ x2 then .inr μ else (if (Int32.ofNat 41) ≤ x2 then .inr μ else (let μ5 : Mm := (upI μ (b + 1) (Int32.toNatClampNeg x2) (μ.1 (p0 + 1) (Int32.toNatClampNeg x2))); .inl ((x2 + 1), μ5))))
def sd_X5_become_2 (b : Nat) (p0 : Nat)  (x2 : Int32) (μ : Mm) : Prop := (¬ ((μ.1 p0 1) ≤ x2) → (¬ ((Int32.ofNat 41) ≤ x2) → (vp_in x2 41) ∧ vp_in x2 41))
set_option maxRecDepth 20000 in
set_option maxHeartbeats 4000000 in
theorem lw_X5_become_2 {E : Ex} {G : Gx} {Q : Option Value → Mm → Prop} {b : Nat} {p0 : Nat} {x2 : Int32} {μ : Mm} (hb : RuleAt b) (hp0 : RuleAt p0) (p : whP (fun s : Int32 × Mm => bd_X5_become_2 b p0 s.1 s.2) (fun s : Int32 × Mm => sd_X5_become_2 b p0  s.1 s.2) FU (x2, μ)) (k : ∀ r : Mm, r = whl (fun s : Int32 × Mm => bd_X5_become_2 b p0 s.1 s.2) (fun s : Int32 × Mm => s.2) FU (x2, μ) → J E G 1 mX5_become Q 37 [(0, rf E b), (1, rf E p0)] [] r) : J E G 1 mX5_become Q 2 [(0, rf E b), (1, rf E p0), (2, .int x2)] [] μ := by
  refine J_whl (f := (fun s : Int32 × Mm => bd_X5_become_2 b p0 s.1 s.2)) (dd := (fun s : Int32 × Mm => s.2)) (sd := (fun s : Int32 × Mm => sd_X5_become_2 b p0  s.1 s.2)) (P := fun s : Int32 × Mm => J E G 1 mX5_become Q 2 [(0, rf E b), (1, rf E p0), (2, .int (s.1))] [] (s.2)) (R := fun r : Mm => J E G 1 mX5_become Q 37 [(0, rf E b), (1, rf E p0)] [] r) ?_ FU (x2, μ) p (k _ rfl)
  clear p k
  rintro ⟨x2, μ⟩ t k1 k2
  dsimp only [sd_X5_become_2] at t
  have kb : ∀ (y2 : Int32) (μ9 : Mm), bd_X5_become_2 b p0 x2 μ = .inl (y2, μ9) → J E G 1 mX5_become Q 2 [(0, rf E b), (1, rf E p0), (2, .int y2)] [] μ9 := fun y2 μ9 h => k1 (y2, μ9) h
  have kx : ∀  (μ9 : Mm), bd_X5_become_2 b p0 x2 μ = .inr μ9 → J E G 1 mX5_become Q 37 [(0, rf E b), (1, rf E p0)] [] μ9 := fun  μ9 h => k2 μ9 h
  clear k1 k2
  refine J_iload_n (dk okX5_become 2 rfl) 2 rfl rfl ?_
  refine J_aload_n (dk okX5_become 3 rfl) 1 rfl rfl ?_
  refine J_getI (dk okX5_become 4 rfl) kfX5_15 hp0.1 rfl ?_
  refine J_icmp_ge (tgt := 37) (dk okX5_become 5 rfl) (by decide) (fun h1 => ?_) (fun h1 => ?_)
  · exact J_sub [0, 1] rfl (kx μ (by unfold bd_X5_become_2; first | (simp only [if_pos h1]; done) | (simp only [if_pos h1]; rfl) | rfl))
  · have t := t h1
    refine J_iload_n (dk okX5_become 6 rfl) 2 rfl rfl ?_
    refine J_aload_n (dk okX5_become 7 rfl) 0 rfl rfl ?_
    refine J_getR (dk okX5_become 8 rfl) kfX5_11 hb.1 rfl ?_
    refine J_alen (by decide) (by decide) (dk okX5_become 9 rfl) hb.2.1 ?_
    refine J_icmp_ge (tgt := 37) (dk okX5_become 10 rfl) (by decide) (fun h2 => ?_) (fun h2 => ?_)
    · exact J_sub [0, 1] rfl (kx μ (by unfold bd_X5_become_2; first | (simp only [if_neg h1, if_pos h2]; done) | (simp only [if_neg h1, if_pos h2]; rfl) | rfl))
    · have t := t h2
      refine J_aload_n (dk okX5_become 11 rfl) 0 rfl rfl ?_
      refine J_getR (dk okX5_become 12 rfl) kfX5_11 hb.1 rfl ?_
      refine J_iload_n (dk okX5_become 13 rfl) 2 rfl rfl ?_
      refine J_aload_n (dk okX5_become 14 rfl) 1 rfl rfl ?_
      refine J_getR (dk okX5_become 15 rfl) kfX5_11 hp0.1 rfl ?_
      refine J_iload_n (dk okX5_become 16 rfl) 2 rfl rfl ?_
      obtain ⟨s3, t⟩ := t
      refine J_iald (dk okX5_become 17 rfl) hp0.2.1 s3 ?_
      have s4 := t
      refine J_iast (dk okX5_become 18 rfl) hb.2.1 s4 ?_
      refine J_nm (fun μ5 eμ5 => ?_)
      refine J_iinc (v := (x2 + 1)) (ls' := [(2, _), (0, _), (1, _)]) (dk okX5_become 19 rfl) 2 rfl rfl (by decide) rfl ?_
      refine J_goto (tgt := 2) (dk okX5_become 20 rfl) (by decide) ?_
      exact J_sub [1, 2, 0] rfl (kb (x2 + 1) μ5 (by subst eμ5; unfold bd_X5_become_2; first | (simp only [if_neg h1, if_neg h2]; done) | (simp only [if_neg h1, if_neg h2]; rfl) | rfl))
/-- VotingFloor$Rule.become(LVotingFloor$Rule;)V -/
noncomputable def e_X5_become (b : Nat) (p0 : Nat) (μ : Mm) : Mm := (let r2 : Mm := whl (fun s : Int32 × Mm => bd_X5_become_2 b p0 s.1 s.2) (fun s : Int32 × Mm => s.2) FU (0, μ); (let μ3 : Mm := (upI r2 b 1 (r2.1 p0 1)); (let μ6 : Mm := (upI μ3 b 2 (μ3.1 p0 2)); μ6)))
def p_X5_become (b : Nat) (p0 : Nat)  (μ : Mm) : Prop := (whP (fun s : Int32 × Mm => bd_X5_become_2 b p0 s.1 s.2) (fun s : Int32 × Mm => sd_X5_become_2 b p0  s.1 s.2) FU (0, μ)) ∧ (∀ r2 : Mm, r2 = whl (fun s : Int32 × Mm => bd_X5_become_2 b p0 s.1 s.2) (fun s : Int32 × Mm => s.2) FU (0, μ) → (∀ μ3 : Mm, μ3 = (upI r2 b 1 (r2.1 p0 1)) → (narrow .boolean (.int (μ3.1 p0 2)) = .int (μ3.1 p0 2)) ∧ fits .boolean (.int (μ3.1 p0 2)) = true))
set_option maxRecDepth 20000 in
set_option maxHeartbeats 4000000 in
theorem con_X5_become {E : Ex} {Q : Option Value → Mm → Prop} {b : Nat} {p0 : Nat} {μ : Mm} (hb : RuleAt b) (hp0 : RuleAt p0) (t : p_X5_become b p0  μ) (k : Q none (e_X5_become b p0 μ)) : Con E 1 mX5_become [rf E b, rf E p0] μ Q := by
  refine Con_J (by decide +kernel) (Nat.le_of_ble_eq_true rfl) (fun G => ?_)
  unfold e_X5_become at k
  unfold p_X5_become at t
  refine J_sub (ls' := [(0, rf E b), (1, rf E p0)]) [0, 1] rfl ?_
  refine J_iconst (v := 0) (dk okX5_become 0 rfl) (by decide) ?_
  refine J_istore_n (ls' := [(2, _), (0, _), (1, _)]) (dk okX5_become 1 rfl) rfl (by decide) rfl ?_
  obtain ⟨s1, t⟩ := t
  refine J_sub (ls' := [(0, _), (1, _), (2, _)]) [1, 2, 0] rfl ?_
  refine lw_X5_become_2 hb hp0 s1 (fun r2 er2 => ?_)
  have t := t r2 er2
  refine J_aload_n (dk okX5_become 21 rfl) 0 rfl rfl ?_
  refine J_aload_n (dk okX5_become 22 rfl) 1 rfl rfl ?_
  refine J_getI (dk okX5_become 23 rfl) kfX5_15 hp0.1 rfl ?_
  refine J_put (dk okX5_become 24 rfl) kpX5_15 hb.1 rfl rfl rfl ?_
  refine J_nm (fun μ3 eμ3 => ?_)
  have t := t μ3 eμ3
  refine J_aload_n (dk okX5_become 25 rfl) 0 rfl rfl ?_
  refine J_aload_n (dk okX5_become 26 rfl) 1 rfl rfl ?_
  refine J_getI (dk okX5_become 27 rfl) kfX5_19 hp0.1 rfl ?_
  obtain ⟨s4, t⟩ := t
  have s5 := t
  refine J_put (dk okX5_become 28 rfl) kpX5_19 hb.1 rfl s4 s5 ?_
  refine J_nm (fun μ6 eμ6 => ?_)
  subst eμ6 eμ3 er2
  exact J_vret (dk okX5_become 29 rfl) rfl k
noncomputable def bd_X9_addFour_16  (x1 : Int32) (x2 : Int32) (μ : Mm) : (Int32 × Int32 × Mm) ⊕ (Mm) := (if x2 < 0 then .inr μ else (let μ3 : Mm := (upI μ 26 (Int32.toNatClampNeg (μ.1 25 1)) (vp_nar .char ((Int32.toUInt32 ((Int32.toUInt32 x1 >>> (Int32.toUInt32 x2 &&& Int32.toUInt32 31)).toInt32 &&& 255) % 65536).toInt32))); (let μ4 : Mm := (upI μ3 25 1 ((μ3.1 25 1) + 1)); .inl (x1, (x2 + (-8)), μ4))))
def sd_X9_addFour_16   (x1 : Int32) (x2 : Int32) (μ : Mm) : Prop := (¬ (x2 < 0) → vp_in (μ.1 25 1) 80)
set_option maxRecDepth 20000 in
set_option maxHeartbeats 4000000 in
theorem lw_X9_addFour_16 {E : Ex} {G : Gx} {Q : Option Value → Mm → Prop} {x1 : Int32} {x2 : Int32} {μ : Mm}  (p : whP (fun s : Int32 × Int32 × Mm => bd_X9_addFour_16  s.1 s.2.1 s.2.2) (fun s : Int32 × Int32 × Mm => sd_X9_addFour_16   s.1 s.2.1 s.2.2) FU (x1, x2, μ)) (k : ∀ r : Mm, r = whl (fun s : Int32 × Int32 × Mm => bd_X9_addFour_16  s.1 s.2.1 s.2.2) (fun s : Int32 × Int32 × Mm => s.2.2) FU (x1, x2, μ) → J E G 1 mX9_addFour Q 53 [] [] r) : J E G 1 mX9_addFour Q 16 [(0, rf E 25), (1, .int x1), (2, .int x2)] [] μ := by
  refine J_whl (f := (fun s : Int32 × Int32 × Mm => bd_X9_addFour_16  s.1 s.2.1 s.2.2)) (dd := (fun s : Int32 × Int32 × Mm => s.2.2)) (sd := (fun s : Int32 × Int32 × Mm => sd_X9_addFour_16   s.1 s.2.1 s.2.2)) (P := fun s : Int32 × Int32 × Mm => J E G 1 mX9_addFour Q 16 [(0, rf E 25), (1, .int (s.1)), (2, .int (s.2.1))] [] (s.2.2)) (R := fun r : Mm => J E G 1 mX9_addFour Q 53 [] [] r) ?_ FU (x1, x2, μ) p (k _ rfl)
  clear p k
  rintro ⟨x1, x2, μ⟩ t k1 k2
  dsimp only [sd_X9_addFour_16] at t
  have kb : ∀ (y1 : Int32) (y2 : Int32) (μ9 : Mm), bd_X9_addFour_16  x1 x2 μ = .inl (y1, y2, μ9) → J E G 1 mX9_addFour Q 16 [(0, rf E 25), (1, .int y1), (2, .int y2)] [] μ9 := fun y1 y2 μ9 h => k1 (y1, y2, μ9) h
  have kx : ∀  (μ9 : Mm), bd_X9_addFour_16  x1 x2 μ = .inr μ9 → J E G 1 mX9_addFour Q 53 [] [] μ9 := fun  μ9 h => k2 μ9 h
  clear k1 k2
  refine J_iload_n (dk okX9_addFour 10 rfl) 2 rfl rfl ?_
  refine J_if_lt (tgt := 53) (dk okX9_addFour 11 rfl) (by decide) (fun h1 => ?_) (fun h1 => ?_)
  · exact J_sub [] rfl (kx μ (by unfold bd_X9_addFour_16; first | (simp only [if_pos h1]; done) | (simp only [if_pos h1]; rfl) | rfl))
  · have t := t h1
    refine J_aload_n (dk okX9_addFour 12 rfl) 0 rfl rfl ?_
    refine J_getR (dk okX9_addFour 13 rfl) kfX9_11 ds_25 rfl ?_
    refine J_aload_n (dk okX9_addFour 14 rfl) 0 rfl rfl ?_
    refine J_getI (dk okX9_addFour 15 rfl) kfX9_15 ds_25 rfl ?_
    refine J_iload_n (dk okX9_addFour 16 rfl) 1 rfl rfl ?_
    refine J_iload_n (dk okX9_addFour 17 rfl) 2 rfl rfl ?_
    refine J_iushr (dk okX9_addFour 18 rfl) ?_
    refine J_sipush (v := 255) (dk okX9_addFour 19 rfl) (by decide) ?_
    refine J_iand (dk okX9_addFour 20 rfl) ?_
    refine J_i2c (dk okX9_addFour 21 rfl) ?_
    have s2 := t
    refine J_cast (dk okX9_addFour 22 rfl) ds_26 s2 ?_
    refine J_nm (fun μ3 eμ3 => ?_)
    refine J_aload_n (dk okX9_addFour 23 rfl) 0 rfl rfl ?_
    refine J_dup (dk okX9_addFour 24 rfl) rfl ?_
    refine J_getI (dk okX9_addFour 25 rfl) kfX9_15 ds_25 rfl ?_
    refine J_iconst (v := 1) (dk okX9_addFour 26 rfl) (by decide) ?_
    refine J_iadd (dk okX9_addFour 27 rfl) ?_
    refine J_put (dk okX9_addFour 28 rfl) kpX9_15 ds_25 rfl rfl rfl ?_
    refine J_nm (fun μ4 eμ4 => ?_)
    refine J_iinc (v := (x2 + (-8))) (ls' := [(2, _), (0, _), (1, _)]) (dk okX9_addFour 29 rfl) 2 rfl rfl (by decide) rfl ?_
    refine J_goto (tgt := 16) (dk okX9_addFour 30 rfl) (by decide) ?_
    exact J_sub [1, 2, 0] rfl (kb x1 (x2 + (-8)) μ4 (by subst eμ4 eμ3; unfold bd_X9_addFour_16; first | (simp only [if_neg h1]; done) | (simp only [if_neg h1]; rfl) | rfl))
/-- VotingFloor$Text.addFour(I)Z -/
noncomputable def v_X9_addFour (p0 : Int32) (μ : Mm) : Int32 := (if ((μ.1 25 1) + 4) ≤ 80 then 1 else 0)
noncomputable def e_X9_addFour (p0 : Int32) (μ : Mm) : Mm := (if ((μ.1 25 1) + 4) ≤ 80 then (let r3 : Mm := whl (fun s : Int32 × Int32 × Mm => bd_X9_addFour_16  s.1 s.2.1 s.2.2) (fun s : Int32 × Int32 × Mm => s.2.2) FU (p0, 24, μ); r3) else μ)
def p_X9_addFour (p0 : Int32)  (μ : Mm) : Prop := (((μ.1 25 1) + 4) ≤ 80 → whP (fun s : Int32 × Int32 × Mm => bd_X9_addFour_16  s.1 s.2.1 s.2.2) (fun s : Int32 × Int32 × Mm => sd_X9_addFour_16   s.1 s.2.1 s.2.2) FU (p0, 24, μ))
set_option maxRecDepth 20000 in
set_option maxHeartbeats 4000000 in
theorem con_X9_addFour {E : Ex} {Q : Option Value → Mm → Prop} {p0 : Int32} {μ : Mm} (t : p_X9_addFour p0  μ) (k : Q (some (.int (v_X9_addFour p0 μ))) (e_X9_addFour p0 μ)) : Con E 1 mX9_addFour [rf E 25, .int p0] μ Q := by
  refine Con_J (by decide +kernel) (Nat.le_of_ble_eq_true rfl) (fun G => ?_)
  unfold v_X9_addFour e_X9_addFour at k
  unfold p_X9_addFour at t
  refine J_sub (ls' := [(0, rf E 25), (1, .int p0)]) [0, 1] rfl ?_
  refine J_aload_n (dk okX9_addFour 0 rfl) 0 rfl rfl ?_
  refine J_getI (dk okX9_addFour 1 rfl) kfX9_15 ds_25 rfl ?_
  refine J_iconst (v := 4) (dk okX9_addFour 2 rfl) (by decide) ?_
  refine J_iadd (dk okX9_addFour 3 rfl) ?_
  refine J_bipush (v := 80) (dk okX9_addFour 4 rfl) (by decide) ?_
  refine J_icmp_le (tgt := 13) (dk okX9_addFour 5 rfl) (by decide) (fun h1 => ?_) (fun h1 => ?_)
  · have t := t h1
    refine J_bipush (v := 24) (dk okX9_addFour 8 rfl) (by decide) ?_
    refine J_istore_n (ls' := [(2, _), (0, _), (1, _)]) (dk okX9_addFour 9 rfl) rfl (by decide) rfl ?_
    have s2 := t
    refine J_sub (ls' := [(0, _), (1, _), (2, _)]) [1, 2, 0] rfl ?_
    refine lw_X9_addFour_16  s2 (fun r3 er3 => ?_)
    refine J_iconst (v := 1) (dk okX9_addFour 31 rfl) (by decide) ?_
    subst er3
    (try simp only [if_pos h1] at k ⊢)
    exact J_zret (dk okX9_addFour 32 rfl) rfl rfl k
  · refine J_iconst (v := 0) (dk okX9_addFour 6 rfl) (by decide) ?_
    (try simp only [if_neg h1] at k ⊢)
    exact J_zret (dk okX9_addFour 7 rfl) rfl rfl k
theorem nb_X9_addFour (p0 : Int32) (μ : Mm) : narrow .boolean (.int (v_X9_addFour p0 μ)) = .int (v_X9_addFour p0 μ) := by
  unfold v_X9_addFour; (repeat' split) <;> rfl
/-- java/lang/StringLatin1.indexOf([BIII)I -/
noncomputable def v_J1_indexOf_4cfef (p0 : Nat) (p1 : Int32) (p2 : Int32) (p3 : Int32) (μ : Mm) : Int32 := (if (v_J1_canEncode_9a6ad p1) = 0 then (-1) else (if (if p2 < 0 then 0 else p2) < (if (Int32.ofNat (strLen.getD p0 0)) < p3 then (Int32.ofNat (strLen.getD p0 0)) else p3) then (v_J1_indexOfChar_4cfef p0 p1 (if p2 < 0 then 0 else p2) (if (Int32.ofNat (strLen.getD p0 0)) < p3 then (Int32.ofNat (strLen.getD p0 0)) else p3) μ) else (-1)))
def p_J1_indexOf_4cfef (p0 : Nat) (p1 : Int32) (p2 : Int32) (p3 : Int32)  (μ : Mm) : Prop := (¬ ((v_J1_canEncode_9a6ad p1) = 0) → ((if p2 < 0 then 0 else p2) < (if (Int32.ofNat (strLen.getD p0 0)) < p3 then (Int32.ofNat (strLen.getD p0 0)) else p3) → p_J1_indexOfChar_4cfef p0 p1 (if p2 < 0 then 0 else p2) (if (Int32.ofNat (strLen.getD p0 0)) < p3 then (Int32.ofNat (strLen.getD p0 0)) else p3) μ))
set_option maxRecDepth 20000 in
set_option maxHeartbeats 4000000 in
theorem con_J1_indexOf_4cfef {E : Ex} {Q : Option Value → Mm → Prop} {p0 : Nat} {p1 : Int32} {p2 : Int32} {p3 : Int32} {μ : Mm} (hp0 : p0 < strN) (t : p_J1_indexOf_4cfef p0 p1 p2 p3  μ) (k : Q (some (.int (v_J1_indexOf_4cfef p0 p1 p2 p3 μ))) μ) : Con E 2 mJ1_indexOf_4cfef [bf E p0, .int p1, .int p2, .int p3] μ Q := by
  refine Con_J (by decide +kernel) (Nat.le_of_ble_eq_true rfl) (fun G => ?_)
  unfold v_J1_indexOf_4cfef at k
  unfold p_J1_indexOf_4cfef at t
  refine J_sub (ls' := [(0, bf E p0), (1, .int p1), (2, .int p2), (3, .int p3)]) [0, 1, 2, 3] rfl ?_
  refine J_iload_n (dk okJ1_indexOf_4cfef 0 rfl) 1 rfl rfl ?_
  refine J_callSi (As := [.int p1]) (dk okJ1_indexOf_4cfef 1 rfl) skJ1_canEncode_9a6ad lkJ1_88 rfl rfl (Nat.le_of_ble_eq_true rfl) (by decide) (con_J1_canEncode_9a6ad  ⟨_, rfl, ?_⟩)
  refine J_if_ne (tgt := 9) (dk okJ1_indexOf_4cfef 2 rfl) (by decide) (fun h1 => ?_) (fun h1 => ?_)
  · have t := t h1
    refine J_iload_n (dk okJ1_indexOf_4cfef 5 rfl) 2 rfl rfl ?_
    refine J_iconst (v := 0) (dk okJ1_indexOf_4cfef 6 rfl) (by decide) ?_
    refine J_mmax (dk okJ1_indexOf_4cfef 7 rfl) lkJ1_92 mk_max_s mk_Math mk_max_c (by decide) (Nat.le_of_ble_eq_true rfl) ?_
    refine J_istore_n (ls' := [(2, _), (0, _), (1, _), (3, _)]) (dk okJ1_indexOf_4cfef 8 rfl) rfl (by decide) rfl ?_
    refine J_iload_n (dk okJ1_indexOf_4cfef 9 rfl) 3 rfl rfl ?_
    refine J_aload_nB (dk okJ1_indexOf_4cfef 10 rfl) 1 rfl rfl ?_
    refine J_blen (dk okJ1_indexOf_4cfef 11 rfl) hp0 ?_
    refine J_mmin (dk okJ1_indexOf_4cfef 12 rfl) lkJ1_38 mk_min_s mk_Math mk_min_c (by decide) (Nat.le_of_ble_eq_true rfl) ?_
    refine J_istore_n (ls' := [(3, _), (2, _), (0, _), (1, _)]) (dk okJ1_indexOf_4cfef 13 rfl) rfl (by decide) rfl ?_
    refine J_iload_n (dk okJ1_indexOf_4cfef 14 rfl) 1 rfl rfl ?_
    refine J_iload_n (dk okJ1_indexOf_4cfef 15 rfl) 0 rfl rfl ?_
    refine J_icmp_lt (tgt := 29) (dk okJ1_indexOf_4cfef 16 rfl) (by decide) (fun h2 => ?_) (fun h2 => ?_)
    · have t := t h2
      refine J_aload_nB (dk okJ1_indexOf_4cfef 19 rfl) 2 rfl rfl ?_
      refine J_iload_n (dk okJ1_indexOf_4cfef 20 rfl) 3 rfl rfl ?_
      refine J_iload_n (dk okJ1_indexOf_4cfef 21 rfl) 1 rfl rfl ?_
      refine J_iload_n (dk okJ1_indexOf_4cfef 22 rfl) 0 rfl rfl ?_
      have s3 := t
      refine J_callSi (As := [bf E p0, .int p1, .int (if p2 < 0 then 0 else p2), .int (if (Int32.ofNat (strLen.getD p0 0)) < p3 then (Int32.ofNat (strLen.getD p0 0)) else p3)]) (dk okJ1_indexOf_4cfef 23 rfl) skJ1_indexOfChar_4cfef lkJ1_95 rfl rfl (Nat.le_of_ble_eq_true rfl) (by decide) (con_J1_indexOfChar_4cfef hp0 s3 ⟨_, rfl, ?_⟩)
      (try simp only [if_neg h1, if_pos h2] at k ⊢)
      exact J_iret (dk okJ1_indexOf_4cfef 24 rfl) rfl k
    · refine J_iconst (v := (-1)) (dk okJ1_indexOf_4cfef 17 rfl) (by decide) ?_
      (try simp only [if_neg h1, if_neg h2] at k ⊢)
      exact J_iret (dk okJ1_indexOf_4cfef 18 rfl) rfl k
  · refine J_iconst (v := (-1)) (dk okJ1_indexOf_4cfef 3 rfl) (by decide) ?_
    (try simp only [if_pos h1] at k ⊢)
    exact J_iret (dk okJ1_indexOf_4cfef 4 rfl) rfl k
noncomputable def bd_X11_bears_26  (x1 : Int32) (x2 : Int32) (μ : Mm) : (Int32 × Int32 × Mm) ⊕ (Int32 × Mm) := (if 9 < x2 then .inr ((-2), μ) else (let μ3 : Mm := (upI μ 12 (Int32.toNatClampNeg x1) x2); (if (v_X1_moment 8 μ3) ≤ 0 then .inl (x1, (x2 + 1), μ3) else (let μ6 : Mm := (e_X10_begin  μ3); (let μ8 : Mm := (e_X10_add (Int32.toInt64 (2000 + (v_X1_moment 8 μ3))) μ6); .inr (x2, μ8))))))
def sd_X11_bears_26   (x1 : Int32) (x2 : Int32) (μ : Mm) : Prop := (¬ (9 < x2) → (vp_in x1 7) ∧ (∀ μ3 : Mm, μ3 = (upI μ 12 (Int32.toNatClampNeg x1) x2) → (p_X1_moment 8 μ3) ∧ (¬ ((v_X1_moment 8 μ3) ≤ 0) → (∀ μ6 : Mm, μ6 = (e_X10_begin  μ3) → p_X10_add (Int32.toInt64 (2000 + (v_X1_moment 8 μ3))) μ6))))
set_option maxRecDepth 20000 in
set_option maxHeartbeats 4000000 in
theorem lw_X11_bears_26 {E : Ex} {G : Gx} {Q : Option Value → Mm → Prop} {x1 : Int32} {x2 : Int32} {μ : Mm}  (p : whP (fun s : Int32 × Int32 × Mm => bd_X11_bears_26  s.1 s.2.1 s.2.2) (fun s : Int32 × Int32 × Mm => sd_X11_bears_26   s.1 s.2.1 s.2.2) FU (x1, x2, μ)) (k : Q (some (.int (whl (fun s : Int32 × Int32 × Mm => bd_X11_bears_26  s.1 s.2.1 s.2.2) (fun s : Int32 × Int32 × Mm => (0, s.2.2)) FU (x1, x2, μ)).1)) (whl (fun s : Int32 × Int32 × Mm => bd_X11_bears_26  s.1 s.2.1 s.2.2) (fun s : Int32 × Int32 × Mm => (0, s.2.2)) FU (x1, x2, μ)).2) : J E G 2 mX11_bears Q 26 [(0, rf E 0), (1, .int x1), (2, .int x2)] [] μ := by
  refine J_whl (f := (fun s : Int32 × Int32 × Mm => bd_X11_bears_26  s.1 s.2.1 s.2.2)) (dd := (fun s : Int32 × Int32 × Mm => (0, s.2.2))) (sd := (fun s : Int32 × Int32 × Mm => sd_X11_bears_26   s.1 s.2.1 s.2.2)) (P := fun s : Int32 × Int32 × Mm => J E G 2 mX11_bears Q 26 [(0, rf E 0), (1, .int (s.1)), (2, .int (s.2.1))] [] (s.2.2)) (R := fun r : Int32 × Mm => Q (some (.int (r).1)) (r).2) ?_ FU (x1, x2, μ) p k
  clear p k
  rintro ⟨x1, x2, μ⟩ t k1 k2
  dsimp only [sd_X11_bears_26] at t
  have kb : ∀ (y1 : Int32) (y2 : Int32) (μ9 : Mm), bd_X11_bears_26  x1 x2 μ = .inl (y1, y2, μ9) → J E G 2 mX11_bears Q 26 [(0, rf E 0), (1, .int y1), (2, .int y2)] [] μ9 := fun y1 y2 μ9 h => k1 (y1, y2, μ9) h
  have kx : ∀ (y : Int32) (μ9 : Mm), bd_X11_bears_26  x1 x2 μ = .inr (y, μ9) → Q (some (.int y)) μ9 := fun y μ9 h => k2 (y, μ9) h
  clear k1 k2
  refine J_iload_n (dk okX11_bears 14 rfl) 2 rfl rfl ?_
  refine J_bipush (v := 9) (dk okX11_bears 15 rfl) (by decide) ?_
  refine J_icmp_gt (tgt := 82) (dk okX11_bears 16 rfl) (by decide) (fun h1 => ?_) (fun h1 => ?_)
  · refine J_bipush (v := (-2)) (dk okX11_bears 43 rfl) (by decide) ?_
    exact J_iret (dk okX11_bears 44 rfl) rfl (kx (-2) μ (by unfold bd_X11_bears_26; first | (simp only [if_pos h1]; done) | (simp only [if_pos h1]; rfl) | rfl))
  · have t := t h1
    refine J_aload_n (dk okX11_bears 17 rfl) 0 rfl rfl ?_
    refine J_getR (dk okX11_bears 18 rfl) kfX11_16 ds_0 rfl ?_
    refine J_getR (dk okX11_bears 19 rfl) kfX11_157 ds_8 rfl ?_
    refine J_iload_n (dk okX11_bears 20 rfl) 1 rfl rfl ?_
    refine J_iload_n (dk okX11_bears 21 rfl) 2 rfl rfl ?_
    obtain ⟨s2, t⟩ := t
    refine J_iast (dk okX11_bears 22 rfl) ds_12 s2 ?_
    refine J_nm (fun μ3 eμ3 => ?_)
    have t := t μ3 eμ3
    refine J_aload_n (dk okX11_bears 23 rfl) 0 rfl rfl ?_
    refine J_getR (dk okX11_bears 24 rfl) kfX11_16 ds_0 rfl ?_
    obtain ⟨s4, t⟩ := t
    refine J_callVi (As := []) (dk okX11_bears 25 rfl) ds_8 rfl vkX1_moment lkX11_163 rfl rfl (Nat.le_of_ble_eq_true rfl) (by decide) (con_X1_moment FloorAt_8 s4 ⟨_, rfl, ?_⟩)
    refine J_istore_n (ls' := [(3, _), (0, _), (1, _), (2, _)]) (dk okX11_bears 26 rfl) rfl (by decide) rfl ?_
    refine J_iload_n (dk okX11_bears 27 rfl) 0 rfl rfl ?_
    refine J_if_le (tgt := 76) (dk okX11_bears 28 rfl) (by decide) (fun h5 => ?_) (fun h5 => ?_)
    · refine J_iinc (v := (x2 + 1)) (ls' := [(2, _), (3, _), (0, _), (1, _)]) (dk okX11_bears 41 rfl) 3 rfl rfl (by decide) rfl ?_
      refine J_goto (tgt := 26) (dk okX11_bears 42 rfl) (by decide) ?_
      exact J_sub [2, 3, 0] rfl (kb x1 (x2 + 1) μ3 (by subst eμ3; unfold bd_X11_bears_26; first | (simp only [if_neg h1, if_pos h5]; done) | (simp only [if_neg h1, if_pos h5]; rfl) | rfl))
    · have t := t h5
      refine J_aload_n (dk okX11_bears 29 rfl) 1 rfl rfl ?_
      refine J_getR (dk okX11_bears 30 rfl) kfX11_39 ds_0 rfl ?_
      refine J_callVv (As := []) (dk okX11_bears 31 rfl) ds_27 rfl vkX10_begin lkX11_196 rfl rfl (Nat.le_of_ble_eq_true rfl) (by decide) (con_X10_begin  ⟨rfl, ?_⟩)
      refine J_nm (fun μ6 eμ6 => ?_)
      have t := t μ6 eμ6
      refine J_aload_n (dk okX11_bears 32 rfl) 1 rfl rfl ?_
      refine J_getR (dk okX11_bears 33 rfl) kfX11_39 ds_0 rfl ?_
      refine J_sipush (v := 2000) (dk okX11_bears 34 rfl) (by decide) ?_
      refine J_iload_n (dk okX11_bears 35 rfl) 0 rfl rfl ?_
      refine J_iadd (dk okX11_bears 36 rfl) ?_
      refine J_i2l (dk okX11_bears 37 rfl) ?_
      have s7 := t
      refine J_callVv (As := [.long (Int32.toInt64 (2000 + (v_X1_moment 8 μ3)))]) (dk okX11_bears 38 rfl) ds_27 rfl vkX10_add lkX11_199 rfl rfl (Nat.le_of_ble_eq_true rfl) (by decide) (con_X10_add s7 ⟨rfl, ?_⟩)
      refine J_nm (fun μ8 eμ8 => ?_)
      refine J_iload_n (dk okX11_bears 39 rfl) 3 rfl rfl ?_
      exact J_iret (dk okX11_bears 40 rfl) rfl (kx x2 μ8 (by subst eμ8 eμ6 eμ3; unfold bd_X11_bears_26; first | (simp only [if_neg h1, if_neg h5]; done) | (simp only [if_neg h1, if_neg h5]; rfl) | rfl))
/-- VotingFloor.bears(I)I -/
noncomputable def v_X11_bears (p0 : Int32) (μ : Mm) : Int32 := (if (v_X1_has 1 p0 μ) = 0 then (-1) else (let μ3 : Mm := (e_X1_become 8 1 μ); (whl (fun s : Int32 × Int32 × Mm => bd_X11_bears_26  s.1 s.2.1 s.2.2) (fun s : Int32 × Int32 × Mm => (0, s.2.2)) FU (p0, 0, μ3)).1))
noncomputable def e_X11_bears (p0 : Int32) (μ : Mm) : Mm := (if (v_X1_has 1 p0 μ) = 0 then μ else (let μ3 : Mm := (e_X1_become 8 1 μ); (whl (fun s : Int32 × Int32 × Mm => bd_X11_bears_26  s.1 s.2.1 s.2.2) (fun s : Int32 × Int32 × Mm => (0, s.2.2)) FU (p0, 0, μ3)).2))
def p_X11_bears (p0 : Int32)  (μ : Mm) : Prop := (¬ ((v_X1_has 1 p0 μ) = 0) → (p_X1_become 8 1 μ) ∧ (∀ μ3 : Mm, μ3 = (e_X1_become 8 1 μ) → whP (fun s : Int32 × Int32 × Mm => bd_X11_bears_26  s.1 s.2.1 s.2.2) (fun s : Int32 × Int32 × Mm => sd_X11_bears_26   s.1 s.2.1 s.2.2) FU (p0, 0, μ3)))
set_option maxRecDepth 20000 in
set_option maxHeartbeats 4000000 in
theorem con_X11_bears {E : Ex} {Q : Option Value → Mm → Prop} {p0 : Int32} {μ : Mm} (t : p_X11_bears p0  μ) (k : Q (some (.int (v_X11_bears p0 μ))) (e_X11_bears p0 μ)) : Con E 2 mX11_bears [rf E 0, .int p0] μ Q := by
  refine Con_J (by decide +kernel) (Nat.le_of_ble_eq_true rfl) (fun G => ?_)
  unfold v_X11_bears e_X11_bears at k
  unfold p_X11_bears at t
  refine J_sub (ls' := [(0, rf E 0), (1, .int p0)]) [0, 1] rfl ?_
  refine J_aload_n (dk okX11_bears 0 rfl) 0 rfl rfl ?_
  refine J_getR (dk okX11_bears 1 rfl) kfX11_12 ds_0 rfl ?_
  refine J_iload_n (dk okX11_bears 2 rfl) 1 rfl rfl ?_
  refine J_callVi (As := [.int p0]) (dk okX11_bears 3 rfl) ds_1 rfl vkX1_has lkX11_138 rfl rfl (Nat.le_of_ble_eq_true rfl) (by decide) (con_X1_has FloorAt_1 ⟨_, rfl, ?_⟩)
  refine J_if_ne (tgt := 13) (dk okX11_bears 4 rfl) (by decide) (fun h1 => ?_) (fun h1 => ?_)
  · have t := t h1
    refine J_aload_n (dk okX11_bears 7 rfl) 0 rfl rfl ?_
    refine J_getR (dk okX11_bears 8 rfl) kfX11_16 ds_0 rfl ?_
    refine J_aload_n (dk okX11_bears 9 rfl) 0 rfl rfl ?_
    refine J_getR (dk okX11_bears 10 rfl) kfX11_12 ds_0 rfl ?_
    obtain ⟨s2, t⟩ := t
    refine J_callVv (As := [rf E 1]) (dk okX11_bears 11 rfl) ds_8 rfl vkX1_become lkX11_259 rfl rfl (Nat.le_of_ble_eq_true rfl) (by decide) (con_X1_become FloorAt_8 FloorAt_1 s2 ⟨rfl, ?_⟩)
    refine J_nm (fun μ3 eμ3 => ?_)
    have t := t μ3 eμ3
    refine J_iconst (v := 0) (dk okX11_bears 12 rfl) (by decide) ?_
    refine J_istore_n (ls' := [(2, _), (0, _), (1, _)]) (dk okX11_bears 13 rfl) rfl (by decide) rfl ?_
    have s4 := t
    refine J_sub (ls' := [(0, _), (1, _), (2, _)]) [1, 2, 0] rfl ?_
    subst eμ3
    (try simp only [if_neg h1] at k ⊢)
    exact lw_X11_bears_26  s4 k
  · refine J_iconst (v := (-1)) (dk okX11_bears 5 rfl) (by decide) ?_
    (try simp only [if_pos h1] at k ⊢)
    exact J_iret (dk okX11_bears 6 rfl) rfl k
noncomputable def bd_X11_farthest_10  (μ : Mm) (x1 : Int32) (x2 : Int32) (x3 : Int32) (x4 : Int32) : (Int32 × Int32 × Int32 × Int32) ⊕ (Int32 × Int32 × Int32) := (if (μ.1 1 0) ≤ x4 then .inr (x1, x2, x3) else .inl ((if (v_X1_isOff 1 x4 μ) = 0 then (if (if 0 ≤ (μ.1 4 (Int32.toNatClampNeg x4)) then (μ.1 4 (Int32.toNatClampNeg x4)) else 0 - (μ.1 4 (Int32.toNatClampNeg x4))) ≤ x2 then x1 else x4 : Int32) else x1 : Int32), (if (v_X1_isOff 1 x4 μ) = 0 then (if (if 0 ≤ (μ.1 4 (Int32.toNatClampNeg x4)) then (μ.1 4 (Int32.toNatClampNeg x4)) else 0 - (μ.1 4 (Int32.toNatClampNeg x4))) ≤ x2 then x2 else (if 0 ≤ (μ.1 4 (Int32.toNatClampNeg x4)) then (μ.1 4 (Int32.toNatClampNeg x4)) else 0 - (μ.1 4 (Int32.toNatClampNeg x4))) : Int32) else x2 : Int32), (if (v_X1_isOff 1 x4 μ) = 0 then (if (if 0 ≤ (μ.1 4 (Int32.toNatClampNeg x4)) then (μ.1 4 (Int32.toNatClampNeg x4)) else 0 - (μ.1 4 (Int32.toNatClampNeg x4))) ≤ x2 then (if (if 0 ≤ (μ.1 4 (Int32.toNatClampNeg x4)) then (μ.1 4 (Int32.toNatClampNeg x4)) else 0 - (μ.1 4 (Int32.toNatClampNeg x4))) = x2 then (x3 + 1) else x3 : Int32) else 1 : Int32) else x3 : Int32), (x4 + 1)))
def sd_X11_farthest_10   (μ : Mm) (x1 : Int32) (x2 : Int32) (x3 : Int32) (x4 : Int32) : Prop := (¬ ((μ.1 1 0) ≤ x4) → vp_in x4 7)
set_option maxRecDepth 20000 in
set_option maxHeartbeats 4000000 in
theorem lw_X11_farthest_10 {E : Ex} {G : Gx} {Q : Option Value → Mm → Prop} {x1 : Int32} {x2 : Int32} {x3 : Int32} {x4 : Int32} {μ : Mm}  (p : whP (fun s : Int32 × Int32 × Int32 × Int32 => bd_X11_farthest_10  μ s.1 s.2.1 s.2.2.1 s.2.2.2) (fun s : Int32 × Int32 × Int32 × Int32 => sd_X11_farthest_10   μ s.1 s.2.1 s.2.2.1 s.2.2.2) FU (x1, x2, x3, x4)) (k : ∀ r : Int32 × Int32 × Int32, r = whl (fun s : Int32 × Int32 × Int32 × Int32 => bd_X11_farthest_10  μ s.1 s.2.1 s.2.2.1 s.2.2.2) (fun _ : Int32 × Int32 × Int32 × Int32 => (0, 0, 0)) FU (x1, x2, x3, x4) → J E G 2 mX11_farthest Q 93 [(0, rf E 0), (1, .int (r.1)), (2, .int (r.2.1)), (3, .int (r.2.2))] [] μ) : J E G 2 mX11_farthest Q 10 [(0, rf E 0), (1, .int x1), (2, .int x2), (3, .int x3), (4, .int x4)] [] μ := by
  refine J_whl (f := (fun s : Int32 × Int32 × Int32 × Int32 => bd_X11_farthest_10  μ s.1 s.2.1 s.2.2.1 s.2.2.2)) (dd := (fun _ : Int32 × Int32 × Int32 × Int32 => (0, 0, 0))) (sd := (fun s : Int32 × Int32 × Int32 × Int32 => sd_X11_farthest_10   μ s.1 s.2.1 s.2.2.1 s.2.2.2)) (P := fun s : Int32 × Int32 × Int32 × Int32 => J E G 2 mX11_farthest Q 10 [(0, rf E 0), (1, .int (s.1)), (2, .int (s.2.1)), (3, .int (s.2.2.1)), (4, .int (s.2.2.2))] [] (μ)) (R := fun r : Int32 × Int32 × Int32 => J E G 2 mX11_farthest Q 93 [(0, rf E 0), (1, .int (r.1)), (2, .int (r.2.1)), (3, .int (r.2.2))] [] μ) ?_ FU (x1, x2, x3, x4) p (k _ rfl)
  clear p k
  rintro ⟨x1, x2, x3, x4⟩ t k1 k2
  dsimp only [sd_X11_farthest_10] at t
  have kb : ∀ (y1 : Int32) (y2 : Int32) (y3 : Int32) (y4 : Int32) , bd_X11_farthest_10  μ x1 x2 x3 x4 = .inl (y1, y2, y3, y4) → J E G 2 mX11_farthest Q 10 [(0, rf E 0), (1, .int y1), (2, .int y2), (3, .int y3), (4, .int y4)] [] μ := fun y1 y2 y3 y4  h => k1 (y1, y2, y3, y4) h
  have kx : ∀ (y1 : Int32) (y2 : Int32) (y3 : Int32) , bd_X11_farthest_10  μ x1 x2 x3 x4 = .inr (y1, y2, y3) → J E G 2 mX11_farthest Q 93 [(0, rf E 0), (1, .int y1), (2, .int y2), (3, .int y3)] [] μ := fun y1 y2 y3  h => k2 (y1, y2, y3) h
  clear k1 k2
  refine J_iload (dk okX11_farthest 8 rfl) 4 rfl ?_
  refine J_aload_n (dk okX11_farthest 9 rfl) 0 rfl rfl ?_
  refine J_getR (dk okX11_farthest 10 rfl) kfX11_12 ds_0 rfl ?_
  refine J_getI (dk okX11_farthest 11 rfl) kfX11_106 ds_1 rfl ?_
  refine J_icmp_ge (tgt := 93) (dk okX11_farthest 12 rfl) (by decide) (fun h1 => ?_) (fun h1 => ?_)
  · exact J_sub [0, 1, 2, 3] rfl (kx x1 x2 x3 (by unfold bd_X11_farthest_10; first | (simp only [if_pos h1]; done) | (simp only [if_pos h1]; rfl) | rfl))
  · have t := t h1
    refine J_aload_n (dk okX11_farthest 13 rfl) 0 rfl rfl ?_
    refine J_getR (dk okX11_farthest 14 rfl) kfX11_12 ds_0 rfl ?_
    refine J_getR (dk okX11_farthest 15 rfl) kfX11_154 ds_1 rfl ?_
    refine J_iload (dk okX11_farthest 16 rfl) 4 rfl ?_
    have s2 := t
    refine J_iald (dk okX11_farthest 17 rfl) ds_4 s2 ?_
    refine J_mabs (dk okX11_farthest 18 rfl) lkX11_315 mk_abs_s mk_Math mk_abs_c (by decide) (Nat.le_of_ble_eq_true rfl) ?_
    refine J_istore (ls' := [(5, _), (0, _), (1, _), (2, _), (3, _), (4, _)]) (dk okX11_farthest 19 rfl) (by decide) rfl ?_
    refine J_aload_n (dk okX11_farthest 20 rfl) 1 rfl rfl ?_
    refine J_getR (dk okX11_farthest 21 rfl) kfX11_12 ds_0 rfl ?_
    refine J_iload (dk okX11_farthest 22 rfl) 5 rfl ?_
    refine J_callVi (As := [.int x4]) (dk okX11_farthest 23 rfl) ds_1 rfl vkX1_isOff lkX11_160 rfl rfl (Nat.le_of_ble_eq_true rfl) (by decide) (con_X1_isOff FloorAt_1 ⟨_, rfl, ?_⟩)
    have K8 : J E G 2 mX11_farthest Q 87 [(0, rf E 0), (1, .int (if (v_X1_isOff 1 x4 μ) = 0 then (if (if 0 ≤ (μ.1 4 (Int32.toNatClampNeg x4)) then (μ.1 4 (Int32.toNatClampNeg x4)) else 0 - (μ.1 4 (Int32.toNatClampNeg x4))) ≤ x2 then x1 else x4 : Int32) else x1 : Int32)), (2, .int (if (v_X1_isOff 1 x4 μ) = 0 then (if (if 0 ≤ (μ.1 4 (Int32.toNatClampNeg x4)) then (μ.1 4 (Int32.toNatClampNeg x4)) else 0 - (μ.1 4 (Int32.toNatClampNeg x4))) ≤ x2 then x2 else (if 0 ≤ (μ.1 4 (Int32.toNatClampNeg x4)) then (μ.1 4 (Int32.toNatClampNeg x4)) else 0 - (μ.1 4 (Int32.toNatClampNeg x4))) : Int32) else x2 : Int32)), (3, .int (if (v_X1_isOff 1 x4 μ) = 0 then (if (if 0 ≤ (μ.1 4 (Int32.toNatClampNeg x4)) then (μ.1 4 (Int32.toNatClampNeg x4)) else 0 - (μ.1 4 (Int32.toNatClampNeg x4))) ≤ x2 then (if (if 0 ≤ (μ.1 4 (Int32.toNatClampNeg x4)) then (μ.1 4 (Int32.toNatClampNeg x4)) else 0 - (μ.1 4 (Int32.toNatClampNeg x4))) = x2 then (x3 + 1) else x3 : Int32) else 1 : Int32) else x3 : Int32)), (4, .int x4)] [] μ := by
      refine J_iinc (v := (x4 + 1)) (ls' := [(4, _), (0, _), (1, _), (2, _), (3, _)]) (dk okX11_farthest 44 rfl) 4 rfl rfl (by decide) rfl ?_
      refine J_goto (tgt := 10) (dk okX11_farthest 45 rfl) (by decide) ?_
      exact J_sub [1, 2, 3, 4, 0] rfl (kb (if (v_X1_isOff 1 x4 μ) = 0 then (if (if 0 ≤ (μ.1 4 (Int32.toNatClampNeg x4)) then (μ.1 4 (Int32.toNatClampNeg x4)) else 0 - (μ.1 4 (Int32.toNatClampNeg x4))) ≤ x2 then x1 else x4 : Int32) else x1 : Int32) (if (v_X1_isOff 1 x4 μ) = 0 then (if (if 0 ≤ (μ.1 4 (Int32.toNatClampNeg x4)) then (μ.1 4 (Int32.toNatClampNeg x4)) else 0 - (μ.1 4 (Int32.toNatClampNeg x4))) ≤ x2 then x2 else (if 0 ≤ (μ.1 4 (Int32.toNatClampNeg x4)) then (μ.1 4 (Int32.toNatClampNeg x4)) else 0 - (μ.1 4 (Int32.toNatClampNeg x4))) : Int32) else x2 : Int32) (if (v_X1_isOff 1 x4 μ) = 0 then (if (if 0 ≤ (μ.1 4 (Int32.toNatClampNeg x4)) then (μ.1 4 (Int32.toNatClampNeg x4)) else 0 - (μ.1 4 (Int32.toNatClampNeg x4))) ≤ x2 then (if (if 0 ≤ (μ.1 4 (Int32.toNatClampNeg x4)) then (μ.1 4 (Int32.toNatClampNeg x4)) else 0 - (μ.1 4 (Int32.toNatClampNeg x4))) = x2 then (x3 + 1) else x3 : Int32) else 1 : Int32) else x3 : Int32) (x4 + 1) (by unfold bd_X11_farthest_10; first | (simp only [if_neg h1]; done) | (simp only [if_neg h1]; rfl) | rfl))
    refine J_if_ne (tgt := 66) (dk okX11_farthest 24 rfl) (by decide) (fun h3 => ?_) (fun h3 => ?_)
    · refine J_aload_n (dk okX11_farthest 35 rfl) 1 rfl rfl ?_
      refine J_getR (dk okX11_farthest 36 rfl) kfX11_12 ds_0 rfl ?_
      refine J_iload (dk okX11_farthest 37 rfl) 5 rfl ?_
      refine J_callVi (As := [.int x4]) (dk okX11_farthest 38 rfl) ds_1 rfl vkX1_isOff lkX11_160 rfl rfl (Nat.le_of_ble_eq_true rfl) (by decide) (con_X1_isOff FloorAt_1 ⟨_, rfl, ?_⟩)
      refine J_if_ne (tgt := 87) (dk okX11_farthest 39 rfl) (by decide) (fun h7 => ?_) (fun h7 => absurd h7 h3)
      refine J_sub (ls' := [(0, _), (1, _), (2, _), (3, _), (4, _)]) [1, 2, 3, 4, 5] rfl ?_
      (try simp only [if_neg h3] at K8 ⊢); exact K8
    · refine J_iload (dk okX11_farthest 25 rfl) 0 rfl ?_
      refine J_iload_n (dk okX11_farthest 26 rfl) 3 rfl rfl ?_
      refine J_icmp_le (tgt := 66) (dk okX11_farthest 27 rfl) (by decide) (fun h4 => ?_) (fun h4 => ?_)
      · refine J_aload_n (dk okX11_farthest 35 rfl) 1 rfl rfl ?_
        refine J_getR (dk okX11_farthest 36 rfl) kfX11_12 ds_0 rfl ?_
        refine J_iload (dk okX11_farthest 37 rfl) 5 rfl ?_
        refine J_callVi (As := [.int x4]) (dk okX11_farthest 38 rfl) ds_1 rfl vkX1_isOff lkX11_160 rfl rfl (Nat.le_of_ble_eq_true rfl) (by decide) (con_X1_isOff FloorAt_1 ⟨_, rfl, ?_⟩)
        refine J_if_ne (tgt := 87) (dk okX11_farthest 39 rfl) (by decide) (fun h5 => absurd h3 h5) (fun h5 => ?_)
        refine J_iload (dk okX11_farthest 40 rfl) 0 rfl ?_
        refine J_iload_n (dk okX11_farthest 41 rfl) 3 rfl rfl ?_
        refine J_icmp_ne (tgt := 87) (dk okX11_farthest 42 rfl) (by decide) (fun h6 => ?_) (fun h6 => ?_)
        · refine J_sub (ls' := [(0, _), (1, _), (2, _), (3, _), (4, _)]) [1, 2, 3, 4, 5] rfl ?_
          (try simp only [if_pos h3, if_pos h4, if_neg h6] at K8 ⊢); exact K8
        · refine J_iinc (v := (x3 + 1)) (ls' := [(3, _), (5, _), (0, _), (1, _), (2, _), (4, _)]) (dk okX11_farthest 43 rfl) 4 rfl rfl (by decide) rfl ?_
          refine J_sub (ls' := [(0, _), (1, _), (2, _), (3, _), (4, _)]) [2, 3, 4, 0, 5] rfl ?_
          (try simp only [if_pos h3, if_pos h4, if_pos h6] at K8 ⊢); exact K8
      · refine J_iload (dk okX11_farthest 28 rfl) 5 rfl ?_
        refine J_istore_n (ls' := [(1, _), (5, _), (0, _), (2, _), (3, _), (4, _)]) (dk okX11_farthest 29 rfl) rfl (by decide) rfl ?_
        refine J_iload (dk okX11_farthest 30 rfl) 1 rfl ?_
        refine J_istore_n (ls' := [(2, _), (1, _), (5, _), (0, _), (3, _), (4, _)]) (dk okX11_farthest 31 rfl) rfl (by decide) rfl ?_
        refine J_iconst (v := 1) (dk okX11_farthest 32 rfl) (by decide) ?_
        refine J_istore_n (ls' := [(3, _), (2, _), (1, _), (5, _), (0, _), (4, _)]) (dk okX11_farthest 33 rfl) rfl (by decide) rfl ?_
        refine J_goto (tgt := 87) (dk okX11_farthest 34 rfl) (by decide) ?_
        refine J_sub (ls' := [(0, _), (1, _), (2, _), (3, _), (4, _)]) [4, 2, 1, 0, 5] rfl ?_
        (try simp only [if_pos h3, if_neg h4] at K8 ⊢); exact K8
/-- VotingFloor.farthest()I -/
noncomputable def v_X11_farthest  (μ : Mm) : Int32 := (let r2 : Int32 × Int32 × Int32 := whl (fun s : Int32 × Int32 × Int32 × Int32 => bd_X11_farthest_10  μ s.1 s.2.1 s.2.2.1 s.2.2.2) (fun _ : Int32 × Int32 × Int32 × Int32 => (0, 0, 0)) FU ((-2), (-1), 0, 0); (r2.1))
noncomputable def e_X11_farthest  (μ : Mm) : Mm := (let r2 : Int32 × Int32 × Int32 := whl (fun s : Int32 × Int32 × Int32 × Int32 => bd_X11_farthest_10  μ s.1 s.2.1 s.2.2.1 s.2.2.2) (fun _ : Int32 × Int32 × Int32 × Int32 => (0, 0, 0)) FU ((-2), (-1), 0, 0); (let μ9 : Mm := (if (r2.1) = (-2) then μ else ((e_X10_add (Int32.toInt64 (r2.2.2)) ((e_X10_add (Int32.toInt64 (r2.2.1)) ((e_X10_begin  μ)))))) : Mm); μ9))
def p_X11_farthest   (μ : Mm) : Prop := (whP (fun s : Int32 × Int32 × Int32 × Int32 => bd_X11_farthest_10  μ s.1 s.2.1 s.2.2.1 s.2.2.2) (fun s : Int32 × Int32 × Int32 × Int32 => sd_X11_farthest_10   μ s.1 s.2.1 s.2.2.1 s.2.2.2) FU ((-2), (-1), 0, 0)) ∧ (∀ r2 : Int32 × Int32 × Int32, r2 = whl (fun s : Int32 × Int32 × Int32 × Int32 => bd_X11_farthest_10  μ s.1 s.2.1 s.2.2.1 s.2.2.2) (fun _ : Int32 × Int32 × Int32 × Int32 => (0, 0, 0)) FU ((-2), (-1), 0, 0) → (¬ ((r2.1) = (-2)) → (∀ μ4 : Mm, μ4 = (e_X10_begin  μ) → (p_X10_add (Int32.toInt64 (r2.2.1)) μ4) ∧ (∀ μ6 : Mm, μ6 = (e_X10_add (Int32.toInt64 (r2.2.1)) μ4) → p_X10_add (Int32.toInt64 (r2.2.2)) μ6))))
set_option maxRecDepth 20000 in
set_option maxHeartbeats 4000000 in
theorem con_X11_farthest {E : Ex} {Q : Option Value → Mm → Prop} {μ : Mm} (t : p_X11_farthest   μ) (k : Q (some (.int (v_X11_farthest  μ))) (e_X11_farthest  μ)) : Con E 2 mX11_farthest [rf E 0] μ Q := by
  refine Con_J (by decide +kernel) (Nat.le_of_ble_eq_true rfl) (fun G => ?_)
  unfold v_X11_farthest e_X11_farthest at k
  unfold p_X11_farthest at t
  refine J_sub (ls' := [(0, rf E 0)]) [0] rfl ?_
  refine J_bipush (v := (-2)) (dk okX11_farthest 0 rfl) (by decide) ?_
  refine J_istore_n (ls' := [(1, _), (0, _)]) (dk okX11_farthest 1 rfl) rfl (by decide) rfl ?_
  refine J_iconst (v := (-1)) (dk okX11_farthest 2 rfl) (by decide) ?_
  refine J_istore_n (ls' := [(2, _), (1, _), (0, _)]) (dk okX11_farthest 3 rfl) rfl (by decide) rfl ?_
  refine J_iconst (v := 0) (dk okX11_farthest 4 rfl) (by decide) ?_
  refine J_istore_n (ls' := [(3, _), (2, _), (1, _), (0, _)]) (dk okX11_farthest 5 rfl) rfl (by decide) rfl ?_
  refine J_iconst (v := 0) (dk okX11_farthest 6 rfl) (by decide) ?_
  refine J_istore (ls' := [(4, _), (3, _), (2, _), (1, _), (0, _)]) (dk okX11_farthest 7 rfl) (by decide) rfl ?_
  obtain ⟨s1, t⟩ := t
  refine J_sub (ls' := [(0, _), (1, _), (2, _), (3, _), (4, _)]) [4, 3, 2, 1, 0] rfl ?_
  refine lw_X11_farthest_10  s1 (fun r2 er2 => ?_)
  have t := t r2 er2
  refine J_iload_n (dk okX11_farthest 46 rfl) 1 rfl rfl ?_
  refine J_bipush (v := (-2)) (dk okX11_farthest 47 rfl) (by decide) ?_
  have K10 : J E G 2 mX11_farthest Q 124 [(1, .int (r2.1))] [] (if (r2.1) = (-2) then μ else ((e_X10_add (Int32.toInt64 (r2.2.2)) ((e_X10_add (Int32.toInt64 (r2.2.1)) ((e_X10_begin  μ)))))) : Mm) := by
    refine J_nm (fun μ9 eμ9 => ?_)
    refine J_iload_n (dk okX11_farthest 62 rfl) 0 rfl rfl ?_
    subst eμ9 er2
    exact J_iret (dk okX11_farthest 63 rfl) rfl k
  refine J_icmp_eq (tgt := 124) (dk okX11_farthest 48 rfl) (by decide) (fun h3 => ?_) (fun h3 => ?_)
  · refine J_sub (ls' := [(1, _)]) [1] rfl ?_
    (try simp only [if_pos h3] at K10 ⊢); exact K10
  · have t := t h3
    refine J_aload_n (dk okX11_farthest 49 rfl) 0 rfl rfl ?_
    refine J_getR (dk okX11_farthest 50 rfl) kfX11_39 ds_0 rfl ?_
    refine J_callVv (As := []) (dk okX11_farthest 51 rfl) ds_27 rfl vkX10_begin lkX11_196 rfl rfl (Nat.le_of_ble_eq_true rfl) (by decide) (con_X10_begin  ⟨rfl, ?_⟩)
    refine J_nm (fun μ4 eμ4 => ?_)
    have t := t μ4 eμ4
    refine J_aload_n (dk okX11_farthest 52 rfl) 0 rfl rfl ?_
    refine J_getR (dk okX11_farthest 53 rfl) kfX11_39 ds_0 rfl ?_
    refine J_iload_n (dk okX11_farthest 54 rfl) 2 rfl rfl ?_
    refine J_i2l (dk okX11_farthest 55 rfl) ?_
    obtain ⟨s5, t⟩ := t
    refine J_callVv (As := [.long (Int32.toInt64 (r2.2.1))]) (dk okX11_farthest 56 rfl) ds_27 rfl vkX10_add lkX11_199 rfl rfl (Nat.le_of_ble_eq_true rfl) (by decide) (con_X10_add s5 ⟨rfl, ?_⟩)
    refine J_nm (fun μ6 eμ6 => ?_)
    have t := t μ6 eμ6
    refine J_aload_n (dk okX11_farthest 57 rfl) 0 rfl rfl ?_
    refine J_getR (dk okX11_farthest 58 rfl) kfX11_39 ds_0 rfl ?_
    refine J_iload_n (dk okX11_farthest 59 rfl) 3 rfl rfl ?_
    refine J_i2l (dk okX11_farthest 60 rfl) ?_
    have s7 := t
    refine J_callVv (As := [.long (Int32.toInt64 (r2.2.2))]) (dk okX11_farthest 61 rfl) ds_27 rfl vkX10_add lkX11_199 rfl rfl (Nat.le_of_ble_eq_true rfl) (by decide) (con_X10_add s7 ⟨rfl, ?_⟩)
    refine J_nm (fun μ8 eμ8 => ?_)
    subst eμ8 eμ6 eμ4
    refine J_sub (ls' := [(1, _)]) [1] rfl ?_
    (try simp only [if_neg h3] at K10 ⊢); exact K10
noncomputable def bd_X11_isBest_2  (μ : Mm) (x0 : Int32) (x1 : Int32) (x2 : Int32) (x3 : Int32) : (Int32 × Int32 × Int32 × Int32) ⊕ (Int32) := (if 9 < x3 then .inr 1 else (if (v_X11_gained x3 x1 x2) ≤ (v_X11_gained x0 x1 x2) then .inl (x0, x1, x2, (x3 + 1)) else .inr 0))
def sd_X11_isBest_2   (μ : Mm) (x0 : Int32) (x1 : Int32) (x2 : Int32) (x3 : Int32) : Prop := True
set_option maxRecDepth 20000 in
set_option maxHeartbeats 4000000 in
theorem lw_X11_isBest_2 {E : Ex} {G : Gx} {Q : Option Value → Mm → Prop} {x0 : Int32} {x1 : Int32} {x2 : Int32} {x3 : Int32} {μ : Mm}  (p : whP (fun s : Int32 × Int32 × Int32 × Int32 => bd_X11_isBest_2  μ s.1 s.2.1 s.2.2.1 s.2.2.2) (fun s : Int32 × Int32 × Int32 × Int32 => sd_X11_isBest_2   μ s.1 s.2.1 s.2.2.1 s.2.2.2) FU (x0, x1, x2, x3)) (k : Q (some (.int (whl (fun s : Int32 × Int32 × Int32 × Int32 => bd_X11_isBest_2  μ s.1 s.2.1 s.2.2.1 s.2.2.2) (fun _ : Int32 × Int32 × Int32 × Int32 => 0) FU (x0, x1, x2, x3)))) μ) : J E G 2 mX11_isBest Q 2 [(0, .int x0), (1, .int x1), (2, .int x2), (3, .int x3)] [] μ := by
  refine J_whl (f := (fun s : Int32 × Int32 × Int32 × Int32 => bd_X11_isBest_2  μ s.1 s.2.1 s.2.2.1 s.2.2.2)) (dd := (fun _ : Int32 × Int32 × Int32 × Int32 => 0)) (sd := (fun s : Int32 × Int32 × Int32 × Int32 => sd_X11_isBest_2   μ s.1 s.2.1 s.2.2.1 s.2.2.2)) (P := fun s : Int32 × Int32 × Int32 × Int32 => J E G 2 mX11_isBest Q 2 [(0, .int (s.1)), (1, .int (s.2.1)), (2, .int (s.2.2.1)), (3, .int (s.2.2.2))] [] (μ)) (R := fun r : Int32 => Q (some (.int (r))) μ) ?_ FU (x0, x1, x2, x3) p k
  clear p k
  rintro ⟨x0, x1, x2, x3⟩ t k1 k2
  dsimp only [sd_X11_isBest_2] at t
  have kb : ∀ (y0 : Int32) (y1 : Int32) (y2 : Int32) (y3 : Int32) , bd_X11_isBest_2  μ x0 x1 x2 x3 = .inl (y0, y1, y2, y3) → J E G 2 mX11_isBest Q 2 [(0, .int y0), (1, .int y1), (2, .int y2), (3, .int y3)] [] μ := fun y0 y1 y2 y3  h => k1 (y0, y1, y2, y3) h
  have kx : ∀ (y : Int32), bd_X11_isBest_2  μ x0 x1 x2 x3 = .inr y → Q (some (.int y)) μ := fun y h => k2 y h
  clear k1 k2
  refine J_iload_n (dk okX11_isBest 2 rfl) 3 rfl rfl ?_
  refine J_bipush (v := 9) (dk okX11_isBest 3 rfl) (by decide) ?_
  refine J_icmp_gt (tgt := 31) (dk okX11_isBest 4 rfl) (by decide) (fun h1 => ?_) (fun h1 => ?_)
  · refine J_iconst (v := 1) (dk okX11_isBest 18 rfl) (by decide) ?_
    exact J_zret (dk okX11_isBest 19 rfl) rfl rfl (kx 1 (by unfold bd_X11_isBest_2; first | (simp only [if_pos h1]; done) | (simp only [if_pos h1]; rfl) | rfl))
  · refine J_iload_n (dk okX11_isBest 5 rfl) 3 rfl rfl ?_
    refine J_iload_n (dk okX11_isBest 6 rfl) 1 rfl rfl ?_
    refine J_iload_n (dk okX11_isBest 7 rfl) 2 rfl rfl ?_
    refine J_callSi (As := [.int x3, .int x1, .int x2]) (dk okX11_isBest 8 rfl) skX11_gained lkX11_382 rfl rfl (Nat.le_of_ble_eq_true rfl) (by decide) (con_X11_gained  ⟨_, rfl, ?_⟩)
    refine J_iload_n (dk okX11_isBest 9 rfl) 0 rfl rfl ?_
    refine J_iload_n (dk okX11_isBest 10 rfl) 1 rfl rfl ?_
    refine J_iload_n (dk okX11_isBest 11 rfl) 2 rfl rfl ?_
    refine J_callSi (As := [.int x0, .int x1, .int x2]) (dk okX11_isBest 12 rfl) skX11_gained lkX11_382 rfl rfl (Nat.le_of_ble_eq_true rfl) (by decide) (con_X11_gained  ⟨_, rfl, ?_⟩)
    refine J_icmp_le (tgt := 25) (dk okX11_isBest 13 rfl) (by decide) (fun h2 => ?_) (fun h2 => ?_)
    · refine J_iinc (v := (x3 + 1)) (ls' := [(3, _), (0, _), (1, _), (2, _)]) (dk okX11_isBest 16 rfl) 3 rfl rfl (by decide) rfl ?_
      refine J_goto (tgt := 2) (dk okX11_isBest 17 rfl) (by decide) ?_
      exact J_sub [1, 2, 3, 0] rfl (kb x0 x1 x2 (x3 + 1) (by unfold bd_X11_isBest_2; first | (simp only [if_neg h1, if_pos h2]; done) | (simp only [if_neg h1, if_pos h2]; rfl) | rfl))
    · refine J_iconst (v := 0) (dk okX11_isBest 14 rfl) (by decide) ?_
      exact J_zret (dk okX11_isBest 15 rfl) rfl rfl (kx 0 (by unfold bd_X11_isBest_2; first | (simp only [if_neg h1, if_neg h2]; done) | (simp only [if_neg h1, if_neg h2]; rfl) | rfl))
/-- VotingFloor.isBest(III)Z -/
noncomputable def v_X11_isBest (p0 : Int32) (p1 : Int32) (p2 : Int32) (μ : Mm) : Int32 := (whl (fun s : Int32 × Int32 × Int32 × Int32 => bd_X11_isBest_2  μ s.1 s.2.1 s.2.2.1 s.2.2.2) (fun _ : Int32 × Int32 × Int32 × Int32 => 0) FU (p0, p1, p2, 0))
def p_X11_isBest (p0 : Int32) (p1 : Int32) (p2 : Int32)  (μ : Mm) : Prop := whP (fun s : Int32 × Int32 × Int32 × Int32 => bd_X11_isBest_2  μ s.1 s.2.1 s.2.2.1 s.2.2.2) (fun s : Int32 × Int32 × Int32 × Int32 => sd_X11_isBest_2   μ s.1 s.2.1 s.2.2.1 s.2.2.2) FU (p0, p1, p2, 0)
set_option maxRecDepth 20000 in
set_option maxHeartbeats 4000000 in
theorem con_X11_isBest {E : Ex} {Q : Option Value → Mm → Prop} {p0 : Int32} {p1 : Int32} {p2 : Int32} {μ : Mm} (t : p_X11_isBest p0 p1 p2  μ) (k : Q (some (.int (v_X11_isBest p0 p1 p2 μ))) μ) : Con E 2 mX11_isBest [.int p0, .int p1, .int p2] μ Q := by
  refine Con_J (by decide +kernel) (Nat.le_of_ble_eq_true rfl) (fun G => ?_)
  unfold v_X11_isBest at k
  unfold p_X11_isBest at t
  refine J_sub (ls' := [(0, .int p0), (1, .int p1), (2, .int p2)]) [0, 1, 2] rfl ?_
  refine J_iconst (v := 0) (dk okX11_isBest 0 rfl) (by decide) ?_
  refine J_istore_n (ls' := [(3, _), (0, _), (1, _), (2, _)]) (dk okX11_isBest 1 rfl) rfl (by decide) rfl ?_
  have s1 := t
  refine J_sub (ls' := [(0, _), (1, _), (2, _), (3, _)]) [1, 2, 3, 0] rfl ?_
  exact lw_X11_isBest_2  s1 k
noncomputable def bd_X11_mostOnOnePlace_4  (μ : Mm) (x1 : Int32) (x2 : Int32) (x3 : Int32) : (Int32 × Int32 × Int32) ⊕ (Int32) := (if 19 ≤ x3 then .inr x2 else .inl (x1, (if x2 < (μ.1 47 (Int32.toNatClampNeg ((x1 * 19) + x3))) then (μ.1 47 (Int32.toNatClampNeg ((x1 * 19) + x3))) else x2), (x3 + 1)))
def sd_X11_mostOnOnePlace_4   (μ : Mm) (x1 : Int32) (x2 : Int32) (x3 : Int32) : Prop := (¬ (19 ≤ x3) → vp_in ((x1 * 19) + x3) 399)
set_option maxRecDepth 20000 in
set_option maxHeartbeats 4000000 in
theorem lw_X11_mostOnOnePlace_4 {E : Ex} {G : Gx} {Q : Option Value → Mm → Prop} {x1 : Int32} {x2 : Int32} {x3 : Int32} {μ : Mm}  (p : whP (fun s : Int32 × Int32 × Int32 => bd_X11_mostOnOnePlace_4  μ s.1 s.2.1 s.2.2) (fun s : Int32 × Int32 × Int32 => sd_X11_mostOnOnePlace_4   μ s.1 s.2.1 s.2.2) FU (x1, x2, x3)) (k : ∀ r : Int32, r = whl (fun s : Int32 × Int32 × Int32 => bd_X11_mostOnOnePlace_4  μ s.1 s.2.1 s.2.2) (fun _ : Int32 × Int32 × Int32 => 0) FU (x1, x2, x3) → J E G 2 mX11_mostOnOnePlace Q 32 [(2, .int r)] [] μ) : J E G 2 mX11_mostOnOnePlace Q 4 [(0, rf E 0), (1, .int x1), (2, .int x2), (3, .int x3)] [] μ := by
  refine J_whl (f := (fun s : Int32 × Int32 × Int32 => bd_X11_mostOnOnePlace_4  μ s.1 s.2.1 s.2.2)) (dd := (fun _ : Int32 × Int32 × Int32 => 0)) (sd := (fun s : Int32 × Int32 × Int32 => sd_X11_mostOnOnePlace_4   μ s.1 s.2.1 s.2.2)) (P := fun s : Int32 × Int32 × Int32 => J E G 2 mX11_mostOnOnePlace Q 4 [(0, rf E 0), (1, .int (s.1)), (2, .int (s.2.1)), (3, .int (s.2.2))] [] (μ)) (R := fun r : Int32 => J E G 2 mX11_mostOnOnePlace Q 32 [(2, .int r)] [] μ) ?_ FU (x1, x2, x3) p (k _ rfl)
  clear p k
  rintro ⟨x1, x2, x3⟩ t k1 k2
  dsimp only [sd_X11_mostOnOnePlace_4] at t
  have kb : ∀ (y1 : Int32) (y2 : Int32) (y3 : Int32) , bd_X11_mostOnOnePlace_4  μ x1 x2 x3 = .inl (y1, y2, y3) → J E G 2 mX11_mostOnOnePlace Q 4 [(0, rf E 0), (1, .int y1), (2, .int y2), (3, .int y3)] [] μ := fun y1 y2 y3  h => k1 (y1, y2, y3) h
  have kx : ∀ (y2 : Int32) , bd_X11_mostOnOnePlace_4  μ x1 x2 x3 = .inr y2 → J E G 2 mX11_mostOnOnePlace Q 32 [(2, .int y2)] [] μ := fun y2  h => k2 y2 h
  clear k1 k2
  refine J_iload_n (dk okX11_mostOnOnePlace 4 rfl) 3 rfl rfl ?_
  refine J_bipush (v := 19) (dk okX11_mostOnOnePlace 5 rfl) (by decide) ?_
  refine J_icmp_ge (tgt := 32) (dk okX11_mostOnOnePlace 6 rfl) (by decide) (fun h1 => ?_) (fun h1 => ?_)
  · exact J_sub [2] rfl (kx x2 (by unfold bd_X11_mostOnOnePlace_4; first | (simp only [if_pos h1]; done) | (simp only [if_pos h1]; rfl) | rfl))
  · have t := t h1
    refine J_iload_n (dk okX11_mostOnOnePlace 7 rfl) 2 rfl rfl ?_
    refine J_aload_n (dk okX11_mostOnOnePlace 8 rfl) 0 rfl rfl ?_
    refine J_getR (dk okX11_mostOnOnePlace 9 rfl) kfX11_89 ds_0 rfl ?_
    refine J_iload_n (dk okX11_mostOnOnePlace 10 rfl) 1 rfl rfl ?_
    refine J_bipush (v := 19) (dk okX11_mostOnOnePlace 11 rfl) (by decide) ?_
    refine J_imul (dk okX11_mostOnOnePlace 12 rfl) ?_
    refine J_iload_n (dk okX11_mostOnOnePlace 13 rfl) 3 rfl rfl ?_
    refine J_iadd (dk okX11_mostOnOnePlace 14 rfl) ?_
    have s2 := t
    refine J_iald (dk okX11_mostOnOnePlace 15 rfl) ds_47 s2 ?_
    refine J_mmax (dk okX11_mostOnOnePlace 16 rfl) lkX11_177 mk_max_s mk_Math mk_max_c (by decide) (Nat.le_of_ble_eq_true rfl) ?_
    refine J_istore_n (ls' := [(2, _), (0, _), (1, _), (3, _)]) (dk okX11_mostOnOnePlace 17 rfl) rfl (by decide) rfl ?_
    refine J_iinc (v := (x3 + 1)) (ls' := [(3, _), (2, _), (0, _), (1, _)]) (dk okX11_mostOnOnePlace 18 rfl) 3 rfl rfl (by decide) rfl ?_
    refine J_goto (tgt := 4) (dk okX11_mostOnOnePlace 19 rfl) (by decide) ?_
    exact J_sub [2, 3, 1, 0] rfl (kb x1 (if x2 < (μ.1 47 (Int32.toNatClampNeg ((x1 * 19) + x3))) then (μ.1 47 (Int32.toNatClampNeg ((x1 * 19) + x3))) else x2) (x3 + 1) (by unfold bd_X11_mostOnOnePlace_4; first | (simp only [if_neg h1]; done) | (simp only [if_neg h1]; rfl) | rfl))
/-- VotingFloor.mostOnOnePlace(I)I -/
noncomputable def v_X11_mostOnOnePlace (p0 : Int32) (μ : Mm) : Int32 := (let r2 : Int32 := whl (fun s : Int32 × Int32 × Int32 => bd_X11_mostOnOnePlace_4  μ s.1 s.2.1 s.2.2) (fun _ : Int32 × Int32 × Int32 => 0) FU (p0, 0, 0); r2)
def p_X11_mostOnOnePlace (p0 : Int32)  (μ : Mm) : Prop := whP (fun s : Int32 × Int32 × Int32 => bd_X11_mostOnOnePlace_4  μ s.1 s.2.1 s.2.2) (fun s : Int32 × Int32 × Int32 => sd_X11_mostOnOnePlace_4   μ s.1 s.2.1 s.2.2) FU (p0, 0, 0)
set_option maxRecDepth 20000 in
set_option maxHeartbeats 4000000 in
theorem con_X11_mostOnOnePlace {E : Ex} {Q : Option Value → Mm → Prop} {p0 : Int32} {μ : Mm} (t : p_X11_mostOnOnePlace p0  μ) (k : Q (some (.int (v_X11_mostOnOnePlace p0 μ))) μ) : Con E 2 mX11_mostOnOnePlace [rf E 0, .int p0] μ Q := by
  refine Con_J (by decide +kernel) (Nat.le_of_ble_eq_true rfl) (fun G => ?_)
  unfold v_X11_mostOnOnePlace at k
  unfold p_X11_mostOnOnePlace at t
  refine J_sub (ls' := [(0, rf E 0), (1, .int p0)]) [0, 1] rfl ?_
  refine J_iconst (v := 0) (dk okX11_mostOnOnePlace 0 rfl) (by decide) ?_
  refine J_istore_n (ls' := [(2, _), (0, _), (1, _)]) (dk okX11_mostOnOnePlace 1 rfl) rfl (by decide) rfl ?_
  refine J_iconst (v := 0) (dk okX11_mostOnOnePlace 2 rfl) (by decide) ?_
  refine J_istore_n (ls' := [(3, _), (2, _), (0, _), (1, _)]) (dk okX11_mostOnOnePlace 3 rfl) rfl (by decide) rfl ?_
  have s1 := t
  refine J_sub (ls' := [(0, _), (1, _), (2, _), (3, _)]) [2, 3, 1, 0] rfl ?_
  refine lw_X11_mostOnOnePlace_4  s1 (fun r2 er2 => ?_)
  refine J_iload_n (dk okX11_mostOnOnePlace 20 rfl) 0 rfl rfl ?_
  subst er2
  exact J_iret (dk okX11_mostOnOnePlace 21 rfl) rfl k
/-- VotingFloor.sign(I)I -/
noncomputable def v_X11_sign (p0 : Int32) (μ : Mm) : Int32 := (let μ2 : Mm := (e_X9_addFour p0 μ); (if (v_X9_addFour p0 μ) = 0 then (-1) else (μ2.1 25 1) : Int32))
noncomputable def e_X11_sign (p0 : Int32) (μ : Mm) : Mm := (let μ2 : Mm := (e_X9_addFour p0 μ); μ2)
def p_X11_sign (p0 : Int32)  (μ : Mm) : Prop := p_X9_addFour p0 μ
set_option maxRecDepth 20000 in
set_option maxHeartbeats 4000000 in
theorem con_X11_sign {E : Ex} {Q : Option Value → Mm → Prop} {p0 : Int32} {μ : Mm} (t : p_X11_sign p0  μ) (k : Q (some (.int (v_X11_sign p0 μ))) (e_X11_sign p0 μ)) : Con E 2 mX11_sign [rf E 0, .int p0] μ Q := by
  refine Con_J (by decide +kernel) (Nat.le_of_ble_eq_true rfl) (fun G => ?_)
  unfold v_X11_sign e_X11_sign at k
  unfold p_X11_sign at t
  refine J_sub (ls' := [(0, rf E 0), (1, .int p0)]) [0, 1] rfl ?_
  refine J_aload_n (dk okX11_sign 0 rfl) 0 rfl rfl ?_
  refine J_getR (dk okX11_sign 1 rfl) kfX11_32 ds_0 rfl ?_
  refine J_iload_n (dk okX11_sign 2 rfl) 1 rfl rfl ?_
  have s1 := t
  refine J_callVi (As := [.int p0]) (dk okX11_sign 3 rfl) ds_25 rfl vkX9_addFour lkX11_95 rfl rfl (Nat.le_of_ble_eq_true rfl) (by decide) (con_X9_addFour s1 ⟨_, rfl, ?_⟩)
  refine J_nm (fun μ2 eμ2 => ?_)
  have K4 : J E G 2 mX11_sign Q 22 [] [.int (if (v_X9_addFour p0 μ) = 0 then (-1) else (μ2.1 25 1) : Int32)] μ2 := by
    subst eμ2
    exact J_iret (dk okX11_sign 10 rfl) rfl k
  refine J_if_eq (tgt := 21) (dk okX11_sign 4 rfl) (by decide) (fun h3 => ?_) (fun h3 => ?_)
  · refine J_iconst (v := (-1)) (dk okX11_sign 9 rfl) (by decide) ?_
    refine J_sub (ls' := []) [] rfl ?_
    (try simp only [if_pos h3] at K4 ⊢); exact K4
  · refine J_aload_n (dk okX11_sign 5 rfl) 0 rfl rfl ?_
    refine J_getR (dk okX11_sign 6 rfl) kfX11_32 ds_0 rfl ?_
    refine J_getI (dk okX11_sign 7 rfl) kfX11_99 ds_25 rfl ?_
    refine J_goto (tgt := 22) (dk okX11_sign 8 rfl) (by decide) ?_
    refine J_sub (ls' := []) [] rfl ?_
    (try simp only [if_neg h3] at K4 ⊢); exact K4
noncomputable def bd_X11_tellFraction_9  (μ : Mm) (x1 : Int64) (x3 : Int64) (x5 : Int64) (x7 : Int64) (x9 : Int32) : (Int64 × Int64 × Int64 × Int64 × Int32) ⊕ (Int64 × Int64 × Int64) := (if 100 ≤ x9 then .inr (x1, x3, x5) else (if (lg_cmp x7 0) = 0 then .inr (x1, x3, x5) else .inl (x1, x3, x7, (x5 - x5 / x7 * x7), (x9 + 1))))
def sd_X11_tellFraction_9   (μ : Mm) (x1 : Int64) (x3 : Int64) (x5 : Int64) (x7 : Int64) (x9 : Int32) : Prop := (¬ (100 ≤ x9) → (¬ ((lg_cmp x7 0) = 0) → ¬ x7 = 0))
set_option maxRecDepth 20000 in
set_option maxHeartbeats 4000000 in
theorem lw_X11_tellFraction_9 {E : Ex} {G : Gx} {Q : Option Value → Mm → Prop} {x1 : Int64} {x3 : Int64} {x5 : Int64} {x7 : Int64} {x9 : Int32} {μ : Mm}  (p : whP (fun s : Int64 × Int64 × Int64 × Int64 × Int32 => bd_X11_tellFraction_9  μ s.1 s.2.1 s.2.2.1 s.2.2.2.1 s.2.2.2.2) (fun s : Int64 × Int64 × Int64 × Int64 × Int32 => sd_X11_tellFraction_9   μ s.1 s.2.1 s.2.2.1 s.2.2.2.1 s.2.2.2.2) FU (x1, x3, x5, x7, x9)) (k : ∀ r : Int64 × Int64 × Int64, r = whl (fun s : Int64 × Int64 × Int64 × Int64 × Int32 => bd_X11_tellFraction_9  μ s.1 s.2.1 s.2.2.1 s.2.2.2.1 s.2.2.2.2) (fun _ : Int64 × Int64 × Int64 × Int64 × Int32 => (0, 0, 0)) FU (x1, x3, x5, x7, x9) → J E G 2 mX11_tellFraction Q 44 [(0, rf E 0), (1, .long (r.1)), (3, .long (r.2.1)), (5, .long (r.2.2))] [] μ) : J E G 2 mX11_tellFraction Q 9 [(0, rf E 0), (1, .long x1), (3, .long x3), (5, .long x5), (7, .long x7), (9, .int x9)] [] μ := by
  refine J_whl (f := (fun s : Int64 × Int64 × Int64 × Int64 × Int32 => bd_X11_tellFraction_9  μ s.1 s.2.1 s.2.2.1 s.2.2.2.1 s.2.2.2.2)) (dd := (fun _ : Int64 × Int64 × Int64 × Int64 × Int32 => (0, 0, 0))) (sd := (fun s : Int64 × Int64 × Int64 × Int64 × Int32 => sd_X11_tellFraction_9   μ s.1 s.2.1 s.2.2.1 s.2.2.2.1 s.2.2.2.2)) (P := fun s : Int64 × Int64 × Int64 × Int64 × Int32 => J E G 2 mX11_tellFraction Q 9 [(0, rf E 0), (1, .long (s.1)), (3, .long (s.2.1)), (5, .long (s.2.2.1)), (7, .long (s.2.2.2.1)), (9, .int (s.2.2.2.2))] [] (μ)) (R := fun r : Int64 × Int64 × Int64 => J E G 2 mX11_tellFraction Q 44 [(0, rf E 0), (1, .long (r.1)), (3, .long (r.2.1)), (5, .long (r.2.2))] [] μ) ?_ FU (x1, x3, x5, x7, x9) p (k _ rfl)
  clear p k
  rintro ⟨x1, x3, x5, x7, x9⟩ t k1 k2
  dsimp only [sd_X11_tellFraction_9] at t
  have kb : ∀ (y1 : Int64) (y3 : Int64) (y5 : Int64) (y7 : Int64) (y9 : Int32) , bd_X11_tellFraction_9  μ x1 x3 x5 x7 x9 = .inl (y1, y3, y5, y7, y9) → J E G 2 mX11_tellFraction Q 9 [(0, rf E 0), (1, .long y1), (3, .long y3), (5, .long y5), (7, .long y7), (9, .int y9)] [] μ := fun y1 y3 y5 y7 y9  h => k1 (y1, y3, y5, y7, y9) h
  have kx : ∀ (y1 : Int64) (y3 : Int64) (y5 : Int64) , bd_X11_tellFraction_9  μ x1 x3 x5 x7 x9 = .inr (y1, y3, y5) → J E G 2 mX11_tellFraction Q 44 [(0, rf E 0), (1, .long y1), (3, .long y3), (5, .long y5)] [] μ := fun y1 y3 y5  h => k2 (y1, y3, y5) h
  clear k1 k2
  refine J_iload (dk okX11_tellFraction 6 rfl) 5 rfl ?_
  refine J_bipush (v := 100) (dk okX11_tellFraction 7 rfl) (by decide) ?_
  refine J_icmp_ge (tgt := 44) (dk okX11_tellFraction 8 rfl) (by decide) (fun h1 => ?_) (fun h1 => ?_)
  · exact J_sub [0, 1, 2, 3] rfl (kx x1 x3 x5 (by unfold bd_X11_tellFraction_9; first | (simp only [if_pos h1]; done) | (simp only [if_pos h1]; rfl) | rfl))
  · have t := t h1
    refine J_lload (dk okX11_tellFraction 9 rfl) 4 rfl ?_
    refine J_lconst (v := 0) (dk okX11_tellFraction 10 rfl) (by decide) ?_
    refine J_lcmp (dk okX11_tellFraction 11 rfl) ?_
    refine J_if_eq (tgt := 44) (dk okX11_tellFraction 12 rfl) (by decide) (fun h2 => ?_) (fun h2 => ?_)
    · exact J_sub [0, 1, 2, 3] rfl (kx x1 x3 x5 (by unfold bd_X11_tellFraction_9; first | (simp only [if_neg h1, if_pos h2]; done) | (simp only [if_neg h1, if_pos h2]; rfl) | rfl))
    · have t := t h2
      refine J_lload (dk okX11_tellFraction 13 rfl) 3 rfl ?_
      refine J_lload (dk okX11_tellFraction 14 rfl) 4 rfl ?_
      have s3 := t
      refine J_lrem (dk okX11_tellFraction 15 rfl) s3 ?_
      refine J_lstore (ls' := [(10, _), (0, _), (1, _), (3, _), (5, _), (7, _), (9, _)]) (dk okX11_tellFraction 16 rfl) (by decide) rfl ?_
      refine J_lload (dk okX11_tellFraction 17 rfl) 5 rfl ?_
      refine J_lstore (ls' := [(5, _), (10, _), (0, _), (1, _), (3, _), (7, _), (9, _)]) (dk okX11_tellFraction 18 rfl) (by decide) rfl ?_
      refine J_lload (dk okX11_tellFraction 19 rfl) 1 rfl ?_
      refine J_lstore (ls' := [(7, _), (5, _), (10, _), (0, _), (1, _), (3, _), (9, _)]) (dk okX11_tellFraction 20 rfl) (by decide) rfl ?_
      refine J_iinc (v := (x9 + 1)) (ls' := [(9, _), (7, _), (5, _), (10, _), (0, _), (1, _), (3, _)]) (dk okX11_tellFraction 21 rfl) 6 rfl rfl (by decide) rfl ?_
      refine J_goto (tgt := 9) (dk okX11_tellFraction 22 rfl) (by decide) ?_
      exact J_sub [4, 5, 6, 2, 1, 0] rfl (kb x1 x3 x7 (x5 - x5 / x7 * x7) (x9 + 1) (by unfold bd_X11_tellFraction_9; first | (simp only [if_neg h1, if_neg h2]; done) | (simp only [if_neg h1, if_neg h2]; rfl) | rfl))
/-- VotingFloor.tellFraction(JJ)V -/
noncomputable def e_X11_tellFraction (p0 : Int64) (p1 : Int64) (μ : Mm) : Mm := (let r2 : Int64 × Int64 × Int64 := whl (fun s : Int64 × Int64 × Int64 × Int64 × Int32 => bd_X11_tellFraction_9  μ s.1 s.2.1 s.2.2.1 s.2.2.2.1 s.2.2.2.2) (fun _ : Int64 × Int64 × Int64 × Int64 × Int32 => (0, 0, 0)) FU (p0, p1, p1, p0, 0); (let μ5 : Mm := (e_X10_begin  μ); (let μ8 : Mm := (e_X10_add ((r2.1) / (if (lg_cmp (r2.2.2) 0) ≤ 0 then 1 else (r2.2.2) : Int64)) μ5); (let μ11 : Mm := (e_X10_add ((r2.2.1) / (if (lg_cmp (r2.2.2) 0) ≤ 0 then 1 else (r2.2.2) : Int64)) μ8); μ11))))
def p_X11_tellFraction (p0 : Int64) (p1 : Int64)  (μ : Mm) : Prop := (whP (fun s : Int64 × Int64 × Int64 × Int64 × Int32 => bd_X11_tellFraction_9  μ s.1 s.2.1 s.2.2.1 s.2.2.2.1 s.2.2.2.2) (fun s : Int64 × Int64 × Int64 × Int64 × Int32 => sd_X11_tellFraction_9   μ s.1 s.2.1 s.2.2.1 s.2.2.2.1 s.2.2.2.2) FU (p0, p1, p1, p0, 0)) ∧ (∀ r2 : Int64 × Int64 × Int64, r2 = whl (fun s : Int64 × Int64 × Int64 × Int64 × Int32 => bd_X11_tellFraction_9  μ s.1 s.2.1 s.2.2.1 s.2.2.2.1 s.2.2.2.2) (fun _ : Int64 × Int64 × Int64 × Int64 × Int32 => (0, 0, 0)) FU (p0, p1, p1, p0, 0) → (∀ μ5 : Mm, μ5 = (e_X10_begin  μ) → (¬ (if (lg_cmp (r2.2.2) 0) ≤ 0 then 1 else (r2.2.2) : Int64) = 0) ∧ (p_X10_add ((r2.1) / (if (lg_cmp (r2.2.2) 0) ≤ 0 then 1 else (r2.2.2) : Int64)) μ5) ∧ (∀ μ8 : Mm, μ8 = (e_X10_add ((r2.1) / (if (lg_cmp (r2.2.2) 0) ≤ 0 then 1 else (r2.2.2) : Int64)) μ5) → (¬ (if (lg_cmp (r2.2.2) 0) ≤ 0 then 1 else (r2.2.2) : Int64) = 0) ∧ p_X10_add ((r2.2.1) / (if (lg_cmp (r2.2.2) 0) ≤ 0 then 1 else (r2.2.2) : Int64)) μ8)))
set_option maxRecDepth 20000 in
set_option maxHeartbeats 4000000 in
theorem con_X11_tellFraction {E : Ex} {Q : Option Value → Mm → Prop} {p0 : Int64} {p1 : Int64} {μ : Mm} (t : p_X11_tellFraction p0 p1  μ) (k : Q none (e_X11_tellFraction p0 p1 μ)) : Con E 2 mX11_tellFraction [rf E 0, .long p0, .long p1] μ Q := by
  refine Con_J (by decide +kernel) (Nat.le_of_ble_eq_true rfl) (fun G => ?_)
  unfold e_X11_tellFraction at k
  unfold p_X11_tellFraction at t
  refine J_sub (ls' := [(0, rf E 0), (1, .long p0), (3, .long p1)]) [0, 1, 2] rfl ?_
  refine J_lload_n (dk okX11_tellFraction 0 rfl) 2 rfl rfl ?_
  refine J_lstore (ls' := [(5, _), (0, _), (1, _), (3, _)]) (dk okX11_tellFraction 1 rfl) (by decide) rfl ?_
  refine J_lload_n (dk okX11_tellFraction 2 rfl) 2 rfl rfl ?_
  refine J_lstore (ls' := [(7, _), (5, _), (0, _), (1, _), (3, _)]) (dk okX11_tellFraction 3 rfl) (by decide) rfl ?_
  refine J_iconst (v := 0) (dk okX11_tellFraction 4 rfl) (by decide) ?_
  refine J_istore (ls' := [(9, _), (7, _), (5, _), (0, _), (1, _), (3, _)]) (dk okX11_tellFraction 5 rfl) (by decide) rfl ?_
  obtain ⟨s1, t⟩ := t
  refine J_sub (ls' := [(0, _), (1, _), (3, _), (5, _), (7, _), (9, _)]) [3, 4, 5, 2, 1, 0] rfl ?_
  refine lw_X11_tellFraction_9  s1 (fun r2 er2 => ?_)
  have t := t r2 er2
  refine J_lload (dk okX11_tellFraction 23 rfl) 3 rfl ?_
  refine J_lconst (v := 0) (dk okX11_tellFraction 24 rfl) (by decide) ?_
  refine J_lcmp (dk okX11_tellFraction 25 rfl) ?_
  have K4 : J E G 2 mX11_tellFraction Q 57 [(0, rf E 0), (1, .long (r2.1)), (3, .long (r2.2.1))] [.long (if (lg_cmp (r2.2.2) 0) ≤ 0 then 1 else (r2.2.2) : Int64)] μ := by
    refine J_lstore (ls' := [(9, _), (0, _), (1, _), (3, _)]) (dk okX11_tellFraction 30 rfl) (by decide) rfl ?_
    refine J_aload_n (dk okX11_tellFraction 31 rfl) 1 rfl rfl ?_
    refine J_getR (dk okX11_tellFraction 32 rfl) kfX11_39 ds_0 rfl ?_
    refine J_callVv (As := []) (dk okX11_tellFraction 33 rfl) ds_27 rfl vkX10_begin lkX11_196 rfl rfl (Nat.le_of_ble_eq_true rfl) (by decide) (con_X10_begin  ⟨rfl, ?_⟩)
    refine J_nm (fun μ5 eμ5 => ?_)
    have t := t μ5 eμ5
    refine J_aload_n (dk okX11_tellFraction 34 rfl) 1 rfl rfl ?_
    refine J_getR (dk okX11_tellFraction 35 rfl) kfX11_39 ds_0 rfl ?_
    refine J_lload_n (dk okX11_tellFraction 36 rfl) 2 rfl rfl ?_
    refine J_lload (dk okX11_tellFraction 37 rfl) 0 rfl ?_
    obtain ⟨s6, t⟩ := t
    refine J_ldiv (dk okX11_tellFraction 38 rfl) s6 ?_
    obtain ⟨s7, t⟩ := t
    refine J_callVv (As := [.long ((r2.1) / (if (lg_cmp (r2.2.2) 0) ≤ 0 then 1 else (r2.2.2) : Int64))]) (dk okX11_tellFraction 39 rfl) ds_27 rfl vkX10_add lkX11_199 rfl rfl (Nat.le_of_ble_eq_true rfl) (by decide) (con_X10_add s7 ⟨rfl, ?_⟩)
    refine J_nm (fun μ8 eμ8 => ?_)
    have t := t μ8 eμ8
    refine J_aload_n (dk okX11_tellFraction 40 rfl) 1 rfl rfl ?_
    refine J_getR (dk okX11_tellFraction 41 rfl) kfX11_39 ds_0 rfl ?_
    refine J_lload_n (dk okX11_tellFraction 42 rfl) 3 rfl rfl ?_
    refine J_lload (dk okX11_tellFraction 43 rfl) 0 rfl ?_
    obtain ⟨s9, t⟩ := t
    refine J_ldiv (dk okX11_tellFraction 44 rfl) s9 ?_
    have s10 := t
    refine J_callVv (As := [.long ((r2.2.1) / (if (lg_cmp (r2.2.2) 0) ≤ 0 then 1 else (r2.2.2) : Int64))]) (dk okX11_tellFraction 45 rfl) ds_27 rfl vkX10_add lkX11_199 rfl rfl (Nat.le_of_ble_eq_true rfl) (by decide) (con_X10_add s10 ⟨rfl, ?_⟩)
    refine J_nm (fun μ11 eμ11 => ?_)
    subst eμ11 eμ8 eμ5 er2
    exact J_vret (dk okX11_tellFraction 46 rfl) rfl k
  refine J_if_le (tgt := 56) (dk okX11_tellFraction 26 rfl) (by decide) (fun h3 => ?_) (fun h3 => ?_)
  · refine J_lconst (v := 1) (dk okX11_tellFraction 29 rfl) (by decide) ?_
    refine J_sub (ls' := [(0, _), (1, _), (3, _)]) [0, 1, 2] rfl ?_
    (try simp only [if_pos h3] at K4 ⊢); exact K4
  · refine J_lload (dk okX11_tellFraction 27 rfl) 3 rfl ?_
    refine J_goto (tgt := 57) (dk okX11_tellFraction 28 rfl) (by decide) ?_
    refine J_sub (ls' := [(0, _), (1, _), (3, _)]) [0, 1, 2] rfl ?_
    (try simp only [if_neg h3] at K4 ⊢); exact K4
noncomputable def bd_X11_tellPlacesOfTrial_2  (x1 : Int32) (μ : Mm) : (Int32 × Mm) ⊕ (Mm) := (if (μ.1 8 0) ≤ x1 then .inr μ else (let μ4 : Mm := (e_X10_add (Int32.toInt64 (100 + (μ.1 11 (Int32.toNatClampNeg x1)))) μ); .inl ((x1 + 1), μ4)))
def sd_X11_tellPlacesOfTrial_2   (x1 : Int32) (μ : Mm) : Prop := (¬ ((μ.1 8 0) ≤ x1) → (vp_in x1 7) ∧ p_X10_add (Int32.toInt64 (100 + (μ.1 11 (Int32.toNatClampNeg x1)))) μ)
set_option maxRecDepth 20000 in
set_option maxHeartbeats 4000000 in
theorem lw_X11_tellPlacesOfTrial_2 {E : Ex} {G : Gx} {Q : Option Value → Mm → Prop} {x1 : Int32} {μ : Mm}  (p : whP (fun s : Int32 × Mm => bd_X11_tellPlacesOfTrial_2  s.1 s.2) (fun s : Int32 × Mm => sd_X11_tellPlacesOfTrial_2   s.1 s.2) FU (x1, μ)) (k : ∀ r : Mm, r = whl (fun s : Int32 × Mm => bd_X11_tellPlacesOfTrial_2  s.1 s.2) (fun s : Int32 × Mm => s.2) FU (x1, μ) → J E G 2 mX11_tellPlacesOfTrial Q 39 [] [] r) : J E G 2 mX11_tellPlacesOfTrial Q 2 [(0, rf E 0), (1, .int x1)] [] μ := by
  refine J_whl (f := (fun s : Int32 × Mm => bd_X11_tellPlacesOfTrial_2  s.1 s.2)) (dd := (fun s : Int32 × Mm => s.2)) (sd := (fun s : Int32 × Mm => sd_X11_tellPlacesOfTrial_2   s.1 s.2)) (P := fun s : Int32 × Mm => J E G 2 mX11_tellPlacesOfTrial Q 2 [(0, rf E 0), (1, .int (s.1))] [] (s.2)) (R := fun r : Mm => J E G 2 mX11_tellPlacesOfTrial Q 39 [] [] r) ?_ FU (x1, μ) p (k _ rfl)
  clear p k
  rintro ⟨x1, μ⟩ t k1 k2
  dsimp only [sd_X11_tellPlacesOfTrial_2] at t
  have kb : ∀ (y1 : Int32) (μ9 : Mm), bd_X11_tellPlacesOfTrial_2  x1 μ = .inl (y1, μ9) → J E G 2 mX11_tellPlacesOfTrial Q 2 [(0, rf E 0), (1, .int y1)] [] μ9 := fun y1 μ9 h => k1 (y1, μ9) h
  have kx : ∀  (μ9 : Mm), bd_X11_tellPlacesOfTrial_2  x1 μ = .inr μ9 → J E G 2 mX11_tellPlacesOfTrial Q 39 [] [] μ9 := fun  μ9 h => k2 μ9 h
  clear k1 k2
  refine J_iload_n (dk okX11_tellPlacesOfTrial 2 rfl) 1 rfl rfl ?_
  refine J_aload_n (dk okX11_tellPlacesOfTrial 3 rfl) 0 rfl rfl ?_
  refine J_getR (dk okX11_tellPlacesOfTrial 4 rfl) kfX11_16 ds_0 rfl ?_
  refine J_getI (dk okX11_tellPlacesOfTrial 5 rfl) kfX11_106 ds_8 rfl ?_
  refine J_icmp_ge (tgt := 39) (dk okX11_tellPlacesOfTrial 6 rfl) (by decide) (fun h1 => ?_) (fun h1 => ?_)
  · exact J_sub [] rfl (kx μ (by unfold bd_X11_tellPlacesOfTrial_2; first | (simp only [if_pos h1]; done) | (simp only [if_pos h1]; rfl) | rfl))
  · have t := t h1
    refine J_aload_n (dk okX11_tellPlacesOfTrial 7 rfl) 0 rfl rfl ?_
    refine J_getR (dk okX11_tellPlacesOfTrial 8 rfl) kfX11_39 ds_0 rfl ?_
    refine J_bipush (v := 100) (dk okX11_tellPlacesOfTrial 9 rfl) (by decide) ?_
    refine J_aload_n (dk okX11_tellPlacesOfTrial 10 rfl) 0 rfl rfl ?_
    refine J_getR (dk okX11_tellPlacesOfTrial 11 rfl) kfX11_16 ds_0 rfl ?_
    refine J_getR (dk okX11_tellPlacesOfTrial 12 rfl) kfX11_154 ds_8 rfl ?_
    refine J_iload_n (dk okX11_tellPlacesOfTrial 13 rfl) 1 rfl rfl ?_
    obtain ⟨s2, t⟩ := t
    refine J_iald (dk okX11_tellPlacesOfTrial 14 rfl) ds_11 s2 ?_
    refine J_iadd (dk okX11_tellPlacesOfTrial 15 rfl) ?_
    refine J_i2l (dk okX11_tellPlacesOfTrial 16 rfl) ?_
    have s3 := t
    refine J_callVv (As := [.long (Int32.toInt64 (100 + (μ.1 11 (Int32.toNatClampNeg x1))))]) (dk okX11_tellPlacesOfTrial 17 rfl) ds_27 rfl vkX10_add lkX11_199 rfl rfl (Nat.le_of_ble_eq_true rfl) (by decide) (con_X10_add s3 ⟨rfl, ?_⟩)
    refine J_nm (fun μ4 eμ4 => ?_)
    refine J_iinc (v := (x1 + 1)) (ls' := [(1, _), (0, _)]) (dk okX11_tellPlacesOfTrial 18 rfl) 1 rfl rfl (by decide) rfl ?_
    refine J_goto (tgt := 2) (dk okX11_tellPlacesOfTrial 19 rfl) (by decide) ?_
    exact J_sub [1, 0] rfl (kb (x1 + 1) μ4 (by subst eμ4; unfold bd_X11_tellPlacesOfTrial_2; first | (simp only [if_neg h1]; done) | (simp only [if_neg h1]; rfl) | rfl))
/-- VotingFloor.tellPlacesOfTrial()V -/
noncomputable def e_X11_tellPlacesOfTrial  (μ : Mm) : Mm := (let r2 : Mm := whl (fun s : Int32 × Mm => bd_X11_tellPlacesOfTrial_2  s.1 s.2) (fun s : Int32 × Mm => s.2) FU (0, μ); r2)
def p_X11_tellPlacesOfTrial   (μ : Mm) : Prop := whP (fun s : Int32 × Mm => bd_X11_tellPlacesOfTrial_2  s.1 s.2) (fun s : Int32 × Mm => sd_X11_tellPlacesOfTrial_2   s.1 s.2) FU (0, μ)
set_option maxRecDepth 20000 in
set_option maxHeartbeats 4000000 in
theorem con_X11_tellPlacesOfTrial {E : Ex} {Q : Option Value → Mm → Prop} {μ : Mm} (t : p_X11_tellPlacesOfTrial   μ) (k : Q none (e_X11_tellPlacesOfTrial  μ)) : Con E 2 mX11_tellPlacesOfTrial [rf E 0] μ Q := by
  refine Con_J (by decide +kernel) (Nat.le_of_ble_eq_true rfl) (fun G => ?_)
  unfold e_X11_tellPlacesOfTrial at k
  unfold p_X11_tellPlacesOfTrial at t
  refine J_sub (ls' := [(0, rf E 0)]) [0] rfl ?_
  refine J_iconst (v := 0) (dk okX11_tellPlacesOfTrial 0 rfl) (by decide) ?_
  refine J_istore_n (ls' := [(1, _), (0, _)]) (dk okX11_tellPlacesOfTrial 1 rfl) rfl (by decide) rfl ?_
  have s1 := t
  refine J_sub (ls' := [(0, _), (1, _)]) [1, 0] rfl ?_
  refine lw_X11_tellPlacesOfTrial_2  s1 (fun r2 er2 => ?_)
  subst er2
  exact J_vret (dk okX11_tellPlacesOfTrial 20 rfl) rfl k
noncomputable def bd_X11_winningStride_3  (μ : Mm) (x1 : Int32) (x2 : Int32) (x3 : Int32) (x4 : Int32) : (Int32 × Int32 × Int32 × Int32) ⊕ (Int32) := (if x2 < x4 then .inr 0 else (if x1 < x4 then .inr 0 else (if x4 = x3 then .inl (x1, x2, x3, (x4 + 1)) else (if (v_X11_isIn (μ.1 48 (Int32.toNatClampNeg (x1 - x4))) x4) = 0 then .inr x4 else .inl (x1, x2, x3, (x4 + 1))))))
def sd_X11_winningStride_3   (μ : Mm) (x1 : Int32) (x2 : Int32) (x3 : Int32) (x4 : Int32) : Prop := (¬ (x2 < x4) → (¬ (x1 < x4) → (¬ (x4 = x3) → vp_in (x1 - x4) 61)))
set_option maxRecDepth 20000 in
set_option maxHeartbeats 4000000 in
theorem lw_X11_winningStride_3 {E : Ex} {G : Gx} {Q : Option Value → Mm → Prop} {x1 : Int32} {x2 : Int32} {x3 : Int32} {x4 : Int32} {μ : Mm}  (p : whP (fun s : Int32 × Int32 × Int32 × Int32 => bd_X11_winningStride_3  μ s.1 s.2.1 s.2.2.1 s.2.2.2) (fun s : Int32 × Int32 × Int32 × Int32 => sd_X11_winningStride_3   μ s.1 s.2.1 s.2.2.1 s.2.2.2) FU (x1, x2, x3, x4)) (k : Q (some (.int (whl (fun s : Int32 × Int32 × Int32 × Int32 => bd_X11_winningStride_3  μ s.1 s.2.1 s.2.2.1 s.2.2.2) (fun _ : Int32 × Int32 × Int32 × Int32 => 0) FU (x1, x2, x3, x4)))) μ) : J E G 2 mX11_winningStride Q 3 [(0, rf E 0), (1, .int x1), (2, .int x2), (3, .int x3), (4, .int x4)] [] μ := by
  refine J_whl (f := (fun s : Int32 × Int32 × Int32 × Int32 => bd_X11_winningStride_3  μ s.1 s.2.1 s.2.2.1 s.2.2.2)) (dd := (fun _ : Int32 × Int32 × Int32 × Int32 => 0)) (sd := (fun s : Int32 × Int32 × Int32 × Int32 => sd_X11_winningStride_3   μ s.1 s.2.1 s.2.2.1 s.2.2.2)) (P := fun s : Int32 × Int32 × Int32 × Int32 => J E G 2 mX11_winningStride Q 3 [(0, rf E 0), (1, .int (s.1)), (2, .int (s.2.1)), (3, .int (s.2.2.1)), (4, .int (s.2.2.2))] [] (μ)) (R := fun r : Int32 => Q (some (.int (r))) μ) ?_ FU (x1, x2, x3, x4) p k
  clear p k
  rintro ⟨x1, x2, x3, x4⟩ t k1 k2
  dsimp only [sd_X11_winningStride_3] at t
  have kb : ∀ (y1 : Int32) (y2 : Int32) (y3 : Int32) (y4 : Int32) , bd_X11_winningStride_3  μ x1 x2 x3 x4 = .inl (y1, y2, y3, y4) → J E G 2 mX11_winningStride Q 3 [(0, rf E 0), (1, .int y1), (2, .int y2), (3, .int y3), (4, .int y4)] [] μ := fun y1 y2 y3 y4  h => k1 (y1, y2, y3, y4) h
  have kx : ∀ (y : Int32), bd_X11_winningStride_3  μ x1 x2 x3 x4 = .inr y → Q (some (.int y)) μ := fun y h => k2 y h
  clear k1 k2
  refine J_iload (dk okX11_winningStride 2 rfl) 4 rfl ?_
  refine J_iload_n (dk okX11_winningStride 3 rfl) 2 rfl rfl ?_
  refine J_icmp_gt (tgt := 47) (dk okX11_winningStride 4 rfl) (by decide) (fun h1 => ?_) (fun h1 => ?_)
  · refine J_iconst (v := 0) (dk okX11_winningStride 24 rfl) (by decide) ?_
    exact J_iret (dk okX11_winningStride 25 rfl) rfl (kx 0 (by unfold bd_X11_winningStride_3; first | (simp only [if_pos h1]; done) | (simp only [if_pos h1]; rfl) | rfl))
  · have t := t h1
    refine J_iload (dk okX11_winningStride 5 rfl) 4 rfl ?_
    refine J_iload_n (dk okX11_winningStride 6 rfl) 1 rfl rfl ?_
    refine J_icmp_gt (tgt := 47) (dk okX11_winningStride 7 rfl) (by decide) (fun h2 => ?_) (fun h2 => ?_)
    · refine J_iconst (v := 0) (dk okX11_winningStride 24 rfl) (by decide) ?_
      exact J_iret (dk okX11_winningStride 25 rfl) rfl (kx 0 (by unfold bd_X11_winningStride_3; first | (simp only [if_neg h1, if_pos h2]; done) | (simp only [if_neg h1, if_pos h2]; rfl) | rfl))
    · have t := t h2
      refine J_iload (dk okX11_winningStride 8 rfl) 4 rfl ?_
      refine J_iload_n (dk okX11_winningStride 9 rfl) 3 rfl rfl ?_
      refine J_icmp_eq (tgt := 41) (dk okX11_winningStride 10 rfl) (by decide) (fun h3 => ?_) (fun h3 => ?_)
      · refine J_iinc (v := (x4 + 1)) (ls' := [(4, _), (0, _), (1, _), (2, _), (3, _)]) (dk okX11_winningStride 22 rfl) 4 rfl rfl (by decide) rfl ?_
        refine J_goto (tgt := 3) (dk okX11_winningStride 23 rfl) (by decide) ?_
        exact J_sub [1, 2, 3, 4, 0] rfl (kb x1 x2 x3 (x4 + 1) (by unfold bd_X11_winningStride_3; first | (simp only [if_neg h1, if_neg h2, if_pos h3]; done) | (simp only [if_neg h1, if_neg h2, if_pos h3]; rfl) | rfl))
      · have t := t h3
        refine J_aload_n (dk okX11_winningStride 11 rfl) 0 rfl rfl ?_
        refine J_getR (dk okX11_winningStride 12 rfl) kfX11_92 ds_0 rfl ?_
        refine J_iload_n (dk okX11_winningStride 13 rfl) 1 rfl rfl ?_
        refine J_iload (dk okX11_winningStride 14 rfl) 4 rfl ?_
        refine J_isub (dk okX11_winningStride 15 rfl) ?_
        have s4 := t
        refine J_iald (dk okX11_winningStride 16 rfl) ds_48 s4 ?_
        refine J_iload (dk okX11_winningStride 17 rfl) 4 rfl ?_
        refine J_callSi (As := [.int (μ.1 48 (Int32.toNatClampNeg (x1 - x4))), .int x4]) (dk okX11_winningStride 18 rfl) skX11_isIn lkX11_324 rfl rfl (Nat.le_of_ble_eq_true rfl) (by decide) (con_X11_isIn  ⟨_, rfl, ?_⟩)
        refine J_if_ne (tgt := 41) (dk okX11_winningStride 19 rfl) (by decide) (fun h5 => ?_) (fun h5 => ?_)
        · refine J_iinc (v := (x4 + 1)) (ls' := [(4, _), (0, _), (1, _), (2, _), (3, _)]) (dk okX11_winningStride 22 rfl) 4 rfl rfl (by decide) rfl ?_
          refine J_goto (tgt := 3) (dk okX11_winningStride 23 rfl) (by decide) ?_
          exact J_sub [1, 2, 3, 4, 0] rfl (kb x1 x2 x3 (x4 + 1) (by unfold bd_X11_winningStride_3; first | (simp only [if_neg h1, if_neg h2, if_neg h3, if_neg h5]; done) | (simp only [if_neg h1, if_neg h2, if_neg h3, if_neg h5]; rfl) | rfl))
        · refine J_iload (dk okX11_winningStride 20 rfl) 4 rfl ?_
          exact J_iret (dk okX11_winningStride 21 rfl) rfl (kx x4 (by unfold bd_X11_winningStride_3; first | (simp only [if_neg h1, if_neg h2, if_neg h3, if_pos h5]; done) | (simp only [if_neg h1, if_neg h2, if_neg h3, if_pos h5]; rfl) | rfl))
/-- VotingFloor.winningStride(III)I -/
noncomputable def v_X11_winningStride (p0 : Int32) (p1 : Int32) (p2 : Int32) (μ : Mm) : Int32 := (whl (fun s : Int32 × Int32 × Int32 × Int32 => bd_X11_winningStride_3  μ s.1 s.2.1 s.2.2.1 s.2.2.2) (fun _ : Int32 × Int32 × Int32 × Int32 => 0) FU (p0, p1, p2, 1))
def p_X11_winningStride (p0 : Int32) (p1 : Int32) (p2 : Int32)  (μ : Mm) : Prop := whP (fun s : Int32 × Int32 × Int32 × Int32 => bd_X11_winningStride_3  μ s.1 s.2.1 s.2.2.1 s.2.2.2) (fun s : Int32 × Int32 × Int32 × Int32 => sd_X11_winningStride_3   μ s.1 s.2.1 s.2.2.1 s.2.2.2) FU (p0, p1, p2, 1)
set_option maxRecDepth 20000 in
set_option maxHeartbeats 4000000 in
theorem con_X11_winningStride {E : Ex} {Q : Option Value → Mm → Prop} {p0 : Int32} {p1 : Int32} {p2 : Int32} {μ : Mm} (t : p_X11_winningStride p0 p1 p2  μ) (k : Q (some (.int (v_X11_winningStride p0 p1 p2 μ))) μ) : Con E 2 mX11_winningStride [rf E 0, .int p0, .int p1, .int p2] μ Q := by
  refine Con_J (by decide +kernel) (Nat.le_of_ble_eq_true rfl) (fun G => ?_)
  unfold v_X11_winningStride at k
  unfold p_X11_winningStride at t
  refine J_sub (ls' := [(0, rf E 0), (1, .int p0), (2, .int p1), (3, .int p2)]) [0, 1, 2, 3] rfl ?_
  refine J_iconst (v := 1) (dk okX11_winningStride 0 rfl) (by decide) ?_
  refine J_istore (ls' := [(4, _), (0, _), (1, _), (2, _), (3, _)]) (dk okX11_winningStride 1 rfl) (by decide) rfl ?_
  have s1 := t
  refine J_sub (ls' := [(0, _), (1, _), (2, _), (3, _), (4, _)]) [1, 2, 3, 4, 0] rfl ?_
  exact lw_X11_winningStride_3  s1 k
noncomputable def bd_X12_again_43  (x1 : Int32) (x2 : Int32) (μ : Mm) : (Int32 × Int32 × Mm) ⊕ (Mm) := (if 24 ≤ x2 then .inr μ else (let μ4 : Mm := (upI μ 52 (Int32.toNatClampNeg x2) (μ.1 77 (Int32.toNatClampNeg ((24 * x1) + x2)))); .inl (x1, (x2 + 1), μ4)))
def sd_X12_again_43   (x1 : Int32) (x2 : Int32) (μ : Mm) : Prop := (¬ (24 ≤ x2) → (vp_in ((24 * x1) + x2) 72) ∧ vp_in x2 24)
set_option maxRecDepth 20000 in
set_option maxHeartbeats 4000000 in
theorem lw_X12_again_43 {E : Ex} {G : Gx} {Q : Option Value → Mm → Prop} {x1 : Int32} {x2 : Int32} {μ : Mm}  (p : whP (fun s : Int32 × Int32 × Mm => bd_X12_again_43  s.1 s.2.1 s.2.2) (fun s : Int32 × Int32 × Mm => sd_X12_again_43   s.1 s.2.1 s.2.2) FU (x1, x2, μ)) (k : ∀ r : Mm, r = whl (fun s : Int32 × Int32 × Mm => bd_X12_again_43  s.1 s.2.1 s.2.2) (fun s : Int32 × Int32 × Mm => s.2.2) FU (x1, x2, μ) → J E G 2 mX12_again Q 72 [(0, rf E 49)] [] r) : J E G 2 mX12_again Q 43 [(0, rf E 49), (1, .int x1), (2, .int x2)] [] μ := by
  refine J_whl (f := (fun s : Int32 × Int32 × Mm => bd_X12_again_43  s.1 s.2.1 s.2.2)) (dd := (fun s : Int32 × Int32 × Mm => s.2.2)) (sd := (fun s : Int32 × Int32 × Mm => sd_X12_again_43   s.1 s.2.1 s.2.2)) (P := fun s : Int32 × Int32 × Mm => J E G 2 mX12_again Q 43 [(0, rf E 49), (1, .int (s.1)), (2, .int (s.2.1))] [] (s.2.2)) (R := fun r : Mm => J E G 2 mX12_again Q 72 [(0, rf E 49)] [] r) ?_ FU (x1, x2, μ) p (k _ rfl)
  clear p k
  rintro ⟨x1, x2, μ⟩ t k1 k2
  dsimp only [sd_X12_again_43] at t
  have kb : ∀ (y1 : Int32) (y2 : Int32) (μ9 : Mm), bd_X12_again_43  x1 x2 μ = .inl (y1, y2, μ9) → J E G 2 mX12_again Q 43 [(0, rf E 49), (1, .int y1), (2, .int y2)] [] μ9 := fun y1 y2 μ9 h => k1 (y1, y2, μ9) h
  have kx : ∀  (μ9 : Mm), bd_X12_again_43  x1 x2 μ = .inr μ9 → J E G 2 mX12_again Q 72 [(0, rf E 49)] [] μ9 := fun  μ9 h => k2 μ9 h
  clear k1 k2
  refine J_iload_n (dk okX12_again 25 rfl) 2 rfl rfl ?_
  refine J_bipush (v := 24) (dk okX12_again 26 rfl) (by decide) ?_
  refine J_icmp_ge (tgt := 72) (dk okX12_again 27 rfl) (by decide) (fun h1 => ?_) (fun h1 => ?_)
  · exact J_sub [0] rfl (kx μ (by unfold bd_X12_again_43; first | (simp only [if_pos h1]; done) | (simp only [if_pos h1]; rfl) | rfl))
  · have t := t h1
    refine J_aload_n (dk okX12_again 28 rfl) 0 rfl rfl ?_
    refine J_getR (dk okX12_again 29 rfl) kfX12_32 ds_49 rfl ?_
    refine J_iload_n (dk okX12_again 30 rfl) 2 rfl rfl ?_
    refine J_aload_n (dk okX12_again 31 rfl) 0 rfl rfl ?_
    refine J_getR (dk okX12_again 32 rfl) kfX12_108 ds_49 rfl ?_
    refine J_bipush (v := 24) (dk okX12_again 33 rfl) (by decide) ?_
    refine J_iload_n (dk okX12_again 34 rfl) 1 rfl rfl ?_
    refine J_imul (dk okX12_again 35 rfl) ?_
    refine J_iload_n (dk okX12_again 36 rfl) 2 rfl rfl ?_
    refine J_iadd (dk okX12_again 37 rfl) ?_
    obtain ⟨s2, t⟩ := t
    refine J_iald (dk okX12_again 38 rfl) ds_77 s2 ?_
    have s3 := t
    refine J_iast (dk okX12_again 39 rfl) ds_52 s3 ?_
    refine J_nm (fun μ4 eμ4 => ?_)
    refine J_iinc (v := (x2 + 1)) (ls' := [(2, _), (0, _), (1, _)]) (dk okX12_again 40 rfl) 2 rfl rfl (by decide) rfl ?_
    refine J_goto (tgt := 43) (dk okX12_again 41 rfl) (by decide) ?_
    exact J_sub [1, 2, 0] rfl (kb x1 (x2 + 1) μ4 (by subst eμ4; unfold bd_X12_again_43; first | (simp only [if_neg h1]; done) | (simp only [if_neg h1]; rfl) | rfl))
/-- VotingFloorModel.again(I)Z -/
noncomputable def v_X12_again (p0 : Int32) (μ : Mm) : Int32 := (let μ1 : Mm := (upI μ 49 0 0); (if (v_X12_in (Int32.toInt64 p0) 0 2) = 0 then 0 else (if (μ1.1 75 (Int32.toNatClampNeg p0)) = 0 then 0 else (if (μ1.1 76 (Int32.toNatClampNeg p0)) = (μ1.1 49 4) then 1 else 0))))
noncomputable def e_X12_again (p0 : Int32) (μ : Mm) : Mm := (let μ1 : Mm := (upI μ 49 0 0); (if (v_X12_in (Int32.toInt64 p0) 0 2) = 0 then μ1 else (if (μ1.1 75 (Int32.toNatClampNeg p0)) = 0 then μ1 else (if (μ1.1 76 (Int32.toNatClampNeg p0)) = (μ1.1 49 4) then (let r8 : Mm := whl (fun s : Int32 × Int32 × Mm => bd_X12_again_43  s.1 s.2.1 s.2.2) (fun s : Int32 × Int32 × Mm => s.2.2) FU (p0, 0, μ1); (let μ9 : Mm := (upI r8 49 23 0); μ9)) else μ1))))
def p_X12_again (p0 : Int32)  (μ : Mm) : Prop := (∀ μ1 : Mm, μ1 = (upI μ 49 0 0) → (¬ ((v_X12_in (Int32.toInt64 p0) 0 2) = 0) → (vp_in p0 3) ∧ (¬ ((μ1.1 75 (Int32.toNatClampNeg p0)) = 0) → (vp_in p0 3) ∧ ((μ1.1 76 (Int32.toNatClampNeg p0)) = (μ1.1 49 4) → whP (fun s : Int32 × Int32 × Mm => bd_X12_again_43  s.1 s.2.1 s.2.2) (fun s : Int32 × Int32 × Mm => sd_X12_again_43   s.1 s.2.1 s.2.2) FU (p0, 0, μ1)))))
set_option maxRecDepth 20000 in
set_option maxHeartbeats 4000000 in
theorem con_X12_again {E : Ex} {Q : Option Value → Mm → Prop} {p0 : Int32} {μ : Mm} (t : p_X12_again p0  μ) (k : Q (some (.int (v_X12_again p0 μ))) (e_X12_again p0 μ)) : Con E 2 mX12_again [rf E 49, .int p0] μ Q := by
  refine Con_J (by decide +kernel) (Nat.le_of_ble_eq_true rfl) (fun G => ?_)
  unfold v_X12_again e_X12_again at k
  unfold p_X12_again at t
  refine J_sub (ls' := [(0, rf E 49), (1, .int p0)]) [0, 1] rfl ?_
  refine J_aload_n (dk okX12_again 0 rfl) 0 rfl rfl ?_
  refine J_iconst (v := 0) (dk okX12_again 1 rfl) (by decide) ?_
  refine J_put (dk okX12_again 2 rfl) kpX12_3 ds_49 rfl rfl rfl ?_
  refine J_nm (fun μ1 eμ1 => ?_)
  have t := t μ1 eμ1
  refine J_iload_n (dk okX12_again 3 rfl) 1 rfl rfl ?_
  refine J_i2l (dk okX12_again 4 rfl) ?_
  refine J_lconst (v := 0) (dk okX12_again 5 rfl) (by decide) ?_
  refine J_ldc2 (v := 2) (dk okX12_again 6 rfl) kcX12_430 ?_
  refine J_callSi (As := [.long (Int32.toInt64 p0), .long 0, .long 2]) (dk okX12_again 7 rfl) skX12_in lkX12_114 rfl rfl (Nat.le_of_ble_eq_true rfl) (by decide) (con_X12_in  ⟨_, rfl, ?_⟩)
  refine J_if_eq (tgt := 39) (dk okX12_again 8 rfl) (by decide) (fun h2 => ?_) (fun h2 => ?_)
  · refine J_iconst (v := 0) (dk okX12_again 21 rfl) (by decide) ?_
    subst eμ1
    (try simp only [if_pos h2] at k ⊢)
    exact J_zret (dk okX12_again 22 rfl) rfl rfl k
  · have t := t h2
    refine J_aload_n (dk okX12_again 9 rfl) 0 rfl rfl ?_
    refine J_getR (dk okX12_again 10 rfl) kfX12_101 ds_49 rfl ?_
    refine J_iload_n (dk okX12_again 11 rfl) 1 rfl rfl ?_
    obtain ⟨s3, t⟩ := t
    refine J_zald (dk okX12_again 12 rfl) ds_75 s3 ?_
    refine J_if_eq (tgt := 39) (dk okX12_again 13 rfl) (by decide) (fun h4 => ?_) (fun h4 => ?_)
    · refine J_iconst (v := 0) (dk okX12_again 21 rfl) (by decide) ?_
      subst eμ1
      (try simp only [if_neg h2, if_pos h4] at k ⊢)
      exact J_zret (dk okX12_again 22 rfl) rfl rfl k
    · have t := t h4
      refine J_aload_n (dk okX12_again 14 rfl) 0 rfl rfl ?_
      refine J_getR (dk okX12_again 15 rfl) kfX12_105 ds_49 rfl ?_
      refine J_iload_n (dk okX12_again 16 rfl) 1 rfl rfl ?_
      obtain ⟨s5, t⟩ := t
      refine J_iald (dk okX12_again 17 rfl) ds_76 s5 ?_
      refine J_aload_n (dk okX12_again 18 rfl) 0 rfl rfl ?_
      refine J_getI (dk okX12_again 19 rfl) kfX12_216 ds_49 rfl ?_
      refine J_icmp_eq (tgt := 41) (dk okX12_again 20 rfl) (by decide) (fun h6 => ?_) (fun h6 => ?_)
      · have t := t h6
        refine J_iconst (v := 0) (dk okX12_again 23 rfl) (by decide) ?_
        refine J_istore_n (ls' := [(2, _), (0, _), (1, _)]) (dk okX12_again 24 rfl) rfl (by decide) rfl ?_
        have s7 := t
        refine J_sub (ls' := [(0, _), (1, _), (2, _)]) [1, 2, 0] rfl ?_
        refine lw_X12_again_43  s7 (fun r8 er8 => ?_)
        refine J_aload_n (dk okX12_again 42 rfl) 0 rfl rfl ?_
        refine J_iconst (v := 0) (dk okX12_again 43 rfl) (by decide) ?_
        refine J_put (dk okX12_again 44 rfl) kpX12_213 ds_49 rfl rfl rfl ?_
        refine J_nm (fun μ9 eμ9 => ?_)
        refine J_iconst (v := 1) (dk okX12_again 45 rfl) (by decide) ?_
        subst eμ9 er8 eμ1
        (try simp only [if_neg h2, if_neg h4, if_pos h6] at k ⊢)
        exact J_zret (dk okX12_again 46 rfl) rfl rfl k
      · refine J_iconst (v := 0) (dk okX12_again 21 rfl) (by decide) ?_
        subst eμ1
        (try simp only [if_neg h2, if_neg h4, if_neg h6] at k ⊢)
        exact J_zret (dk okX12_again 22 rfl) rfl rfl k
/-- VotingFloorModel.counted(I)I -/
noncomputable def v_X12_counted (p0 : Int32) (μ : Mm) : Int32 := (if 0 ≤ p0 then (v_X12_adds p0 μ) else p0 : Int32)
noncomputable def e_X12_counted (p0 : Int32) (μ : Mm) : Mm := (let μ4 : Mm := (if 0 ≤ p0 then ((e_X12_adds p0 μ)) else μ : Mm); μ4)
def p_X12_counted (p0 : Int32)  (μ : Mm) : Prop := (0 ≤ p0 → p_X12_adds p0 μ)
set_option maxRecDepth 20000 in
set_option maxHeartbeats 4000000 in
theorem con_X12_counted {E : Ex} {Q : Option Value → Mm → Prop} {p0 : Int32} {μ : Mm} (t : p_X12_counted p0  μ) (k : Q (some (.int (v_X12_counted p0 μ))) (e_X12_counted p0 μ)) : Con E 2 mX12_counted [rf E 49, .int p0] μ Q := by
  refine Con_J (by decide +kernel) (Nat.le_of_ble_eq_true rfl) (fun G => ?_)
  unfold v_X12_counted e_X12_counted at k
  unfold p_X12_counted at t
  refine J_sub (ls' := [(0, rf E 49), (1, .int p0)]) [0, 1] rfl ?_
  refine J_iload_n (dk okX12_counted 0 rfl) 1 rfl rfl ?_
  have K5 : J E G 2 mX12_counted Q 13 [] [.int (if 0 ≤ p0 then (v_X12_adds p0 μ) else p0 : Int32)] (if 0 ≤ p0 then ((e_X12_adds p0 μ)) else μ : Mm) := by
    refine J_nm (fun μ4 eμ4 => ?_)
    subst eμ4
    exact J_iret (dk okX12_counted 7 rfl) rfl k
  refine J_if_ge (tgt := 8) (dk okX12_counted 1 rfl) (by decide) (fun h1 => ?_) (fun h1 => ?_)
  · have t := t h1
    refine J_aload_n (dk okX12_counted 4 rfl) 0 rfl rfl ?_
    refine J_iload_n (dk okX12_counted 5 rfl) 1 rfl rfl ?_
    have s2 := t
    refine J_callVi (As := [.int p0]) (dk okX12_counted 6 rfl) ds_49 rfl vkX12_adds lkX12_287 rfl rfl (Nat.le_of_ble_eq_true rfl) (by decide) (con_X12_adds s2 ⟨_, rfl, ?_⟩)
    refine J_nm (fun μ3 eμ3 => ?_)
    subst eμ3
    refine J_sub (ls' := []) [] rfl ?_
    (try simp only [if_pos h1] at K5 ⊢); exact K5
  · refine J_iload_n (dk okX12_counted 2 rfl) 1 rfl rfl ?_
    refine J_goto (tgt := 13) (dk okX12_counted 3 rfl) (by decide) ?_
    refine J_sub (ls' := []) [] rfl ?_
    (try simp only [if_neg h1] at K5 ⊢); exact K5
noncomputable def bd_X12_entersPlaces_2  (x1 : Int32) (μ : Mm) : (Int32 × Mm) ⊕ (Mm) := (if (μ.1 49 3) ≤ x1 then .inr μ else (let μ4 : Mm := (e_X12_enters (Int32.toInt64 (100 + (μ.1 53 (Int32.toNatClampNeg (7 + x1))))) μ); .inl ((x1 + 1), μ4)))
def sd_X12_entersPlaces_2   (x1 : Int32) (μ : Mm) : Prop := (¬ ((μ.1 49 3) ≤ x1) → (vp_in (7 + x1) 24) ∧ p_X12_enters (Int32.toInt64 (100 + (μ.1 53 (Int32.toNatClampNeg (7 + x1))))) μ)
set_option maxRecDepth 20000 in
set_option maxHeartbeats 4000000 in
theorem lw_X12_entersPlaces_2 {E : Ex} {G : Gx} {Q : Option Value → Mm → Prop} {x1 : Int32} {μ : Mm}  (p : whP (fun s : Int32 × Mm => bd_X12_entersPlaces_2  s.1 s.2) (fun s : Int32 × Mm => sd_X12_entersPlaces_2   s.1 s.2) FU (x1, μ)) (k : ∀ r : Mm, r = whl (fun s : Int32 × Mm => bd_X12_entersPlaces_2  s.1 s.2) (fun s : Int32 × Mm => s.2) FU (x1, μ) → J E G 2 mX12_entersPlaces Q 33 [] [] r) : J E G 2 mX12_entersPlaces Q 2 [(0, rf E 49), (1, .int x1)] [] μ := by
  refine J_whl (f := (fun s : Int32 × Mm => bd_X12_entersPlaces_2  s.1 s.2)) (dd := (fun s : Int32 × Mm => s.2)) (sd := (fun s : Int32 × Mm => sd_X12_entersPlaces_2   s.1 s.2)) (P := fun s : Int32 × Mm => J E G 2 mX12_entersPlaces Q 2 [(0, rf E 49), (1, .int (s.1))] [] (s.2)) (R := fun r : Mm => J E G 2 mX12_entersPlaces Q 33 [] [] r) ?_ FU (x1, μ) p (k _ rfl)
  clear p k
  rintro ⟨x1, μ⟩ t k1 k2
  dsimp only [sd_X12_entersPlaces_2] at t
  have kb : ∀ (y1 : Int32) (μ9 : Mm), bd_X12_entersPlaces_2  x1 μ = .inl (y1, μ9) → J E G 2 mX12_entersPlaces Q 2 [(0, rf E 49), (1, .int y1)] [] μ9 := fun y1 μ9 h => k1 (y1, μ9) h
  have kx : ∀  (μ9 : Mm), bd_X12_entersPlaces_2  x1 μ = .inr μ9 → J E G 2 mX12_entersPlaces Q 33 [] [] μ9 := fun  μ9 h => k2 μ9 h
  clear k1 k2
  refine J_iload_n (dk okX12_entersPlaces 2 rfl) 1 rfl rfl ?_
  refine J_aload_n (dk okX12_entersPlaces 3 rfl) 0 rfl rfl ?_
  refine J_getI (dk okX12_entersPlaces 4 rfl) kfX12_111 ds_49 rfl ?_
  refine J_icmp_ge (tgt := 33) (dk okX12_entersPlaces 5 rfl) (by decide) (fun h1 => ?_) (fun h1 => ?_)
  · exact J_sub [] rfl (kx μ (by unfold bd_X12_entersPlaces_2; first | (simp only [if_pos h1]; done) | (simp only [if_pos h1]; rfl) | rfl))
  · have t := t h1
    refine J_aload_n (dk okX12_entersPlaces 6 rfl) 0 rfl rfl ?_
    refine J_bipush (v := 100) (dk okX12_entersPlaces 7 rfl) (by decide) ?_
    refine J_aload_n (dk okX12_entersPlaces 8 rfl) 0 rfl rfl ?_
    refine J_getR (dk okX12_entersPlaces 9 rfl) kfX12_35 ds_49 rfl ?_
    refine J_bipush (v := 7) (dk okX12_entersPlaces 10 rfl) (by decide) ?_
    refine J_iload_n (dk okX12_entersPlaces 11 rfl) 1 rfl rfl ?_
    refine J_iadd (dk okX12_entersPlaces 12 rfl) ?_
    obtain ⟨s2, t⟩ := t
    refine J_iald (dk okX12_entersPlaces 13 rfl) ds_53 s2 ?_
    refine J_iadd (dk okX12_entersPlaces 14 rfl) ?_
    refine J_i2l (dk okX12_entersPlaces 15 rfl) ?_
    have s3 := t
    refine J_callVv (As := [.long (Int32.toInt64 (100 + (μ.1 53 (Int32.toNatClampNeg (7 + x1)))))]) (dk okX12_entersPlaces 16 rfl) ds_49 rfl vkX12_enters lkX12_18 rfl rfl (Nat.le_of_ble_eq_true rfl) (by decide) (con_X12_enters s3 ⟨rfl, ?_⟩)
    refine J_nm (fun μ4 eμ4 => ?_)
    refine J_iinc (v := (x1 + 1)) (ls' := [(1, _), (0, _)]) (dk okX12_entersPlaces 17 rfl) 1 rfl rfl (by decide) rfl ?_
    refine J_goto (tgt := 2) (dk okX12_entersPlaces 18 rfl) (by decide) ?_
    exact J_sub [1, 0] rfl (kb (x1 + 1) μ4 (by subst eμ4; unfold bd_X12_entersPlaces_2; first | (simp only [if_neg h1]; done) | (simp only [if_neg h1]; rfl) | rfl))
/-- VotingFloorModel.entersPlaces()V -/
noncomputable def e_X12_entersPlaces  (μ : Mm) : Mm := (let r2 : Mm := whl (fun s : Int32 × Mm => bd_X12_entersPlaces_2  s.1 s.2) (fun s : Int32 × Mm => s.2) FU (0, μ); r2)
def p_X12_entersPlaces   (μ : Mm) : Prop := whP (fun s : Int32 × Mm => bd_X12_entersPlaces_2  s.1 s.2) (fun s : Int32 × Mm => sd_X12_entersPlaces_2   s.1 s.2) FU (0, μ)
set_option maxRecDepth 20000 in
set_option maxHeartbeats 4000000 in
theorem con_X12_entersPlaces {E : Ex} {Q : Option Value → Mm → Prop} {μ : Mm} (t : p_X12_entersPlaces   μ) (k : Q none (e_X12_entersPlaces  μ)) : Con E 2 mX12_entersPlaces [rf E 49] μ Q := by
  refine Con_J (by decide +kernel) (Nat.le_of_ble_eq_true rfl) (fun G => ?_)
  unfold e_X12_entersPlaces at k
  unfold p_X12_entersPlaces at t
  refine J_sub (ls' := [(0, rf E 49)]) [0] rfl ?_
  refine J_iconst (v := 0) (dk okX12_entersPlaces 0 rfl) (by decide) ?_
  refine J_istore_n (ls' := [(1, _), (0, _)]) (dk okX12_entersPlaces 1 rfl) rfl (by decide) rfl ?_
  have s1 := t
  refine J_sub (ls' := [(0, _), (1, _)]) [1, 0] rfl ?_
  refine lw_X12_entersPlaces_2  s1 (fun r2 er2 => ?_)
  subst er2
  exact J_vret (dk okX12_entersPlaces 19 rfl) rfl k
noncomputable def bd_X12_farthest_15  (μ : Mm) (x1 : Int32) (x2 : Int32) (x3 : Int32) (x4 : Int32) : (Int32 × Int32 × Int32 × Int32) ⊕ (Int32 × Int32 × Int32) := (if (μ.1 49 3) ≤ x4 then .inr (x1, x2, x3) else .inl ((if (if (v_X12_has (μ.1 52 (Int32.toNatClampNeg 21)) x4) = 0 then (if 0 ≤ (μ.1 52 (Int32.toNatClampNeg (7 + x4))) then (μ.1 52 (Int32.toNatClampNeg (7 + x4))) else 0 - (μ.1 52 (Int32.toNatClampNeg (7 + x4)))) else (-1) : Int32) ≤ x2 then x1 else x4 : Int32), (if x2 < (if (v_X12_has (μ.1 52 (Int32.toNatClampNeg 21)) x4) = 0 then (if 0 ≤ (μ.1 52 (Int32.toNatClampNeg (7 + x4))) then (μ.1 52 (Int32.toNatClampNeg (7 + x4))) else 0 - (μ.1 52 (Int32.toNatClampNeg (7 + x4)))) else (-1) : Int32) then (if (v_X12_has (μ.1 52 (Int32.toNatClampNeg 21)) x4) = 0 then (if 0 ≤ (μ.1 52 (Int32.toNatClampNeg (7 + x4))) then (μ.1 52 (Int32.toNatClampNeg (7 + x4))) else 0 - (μ.1 52 (Int32.toNatClampNeg (7 + x4)))) else (-1) : Int32) else x2), ((if (if (v_X12_has (μ.1 52 (Int32.toNatClampNeg 21)) x4) = 0 then (if 0 ≤ (μ.1 52 (Int32.toNatClampNeg (7 + x4))) then (μ.1 52 (Int32.toNatClampNeg (7 + x4))) else 0 - (μ.1 52 (Int32.toNatClampNeg (7 + x4)))) else (-1) : Int32) ≤ x2 then x3 else 0 : Int32) + (v_X12_flag (if (if (v_X12_has (μ.1 52 (Int32.toNatClampNeg 21)) x4) = 0 then (if 0 ≤ (μ.1 52 (Int32.toNatClampNeg (7 + x4))) then (μ.1 52 (Int32.toNatClampNeg (7 + x4))) else 0 - (μ.1 52 (Int32.toNatClampNeg (7 + x4)))) else (-1) : Int32) < 0 then 0 else (if (if (v_X12_has (μ.1 52 (Int32.toNatClampNeg 21)) x4) = 0 then (if 0 ≤ (μ.1 52 (Int32.toNatClampNeg (7 + x4))) then (μ.1 52 (Int32.toNatClampNeg (7 + x4))) else 0 - (μ.1 52 (Int32.toNatClampNeg (7 + x4)))) else (-1) : Int32) = (if x2 < (if (v_X12_has (μ.1 52 (Int32.toNatClampNeg 21)) x4) = 0 then (if 0 ≤ (μ.1 52 (Int32.toNatClampNeg (7 + x4))) then (μ.1 52 (Int32.toNatClampNeg (7 + x4))) else 0 - (μ.1 52 (Int32.toNatClampNeg (7 + x4)))) else (-1) : Int32) then (if (v_X12_has (μ.1 52 (Int32.toNatClampNeg 21)) x4) = 0 then (if 0 ≤ (μ.1 52 (Int32.toNatClampNeg (7 + x4))) then (μ.1 52 (Int32.toNatClampNeg (7 + x4))) else 0 - (μ.1 52 (Int32.toNatClampNeg (7 + x4)))) else (-1) : Int32) else x2) then 1 else 0 : Int32) : Int32))), (x4 + 1)))
def sd_X12_farthest_15   (μ : Mm) (x1 : Int32) (x2 : Int32) (x3 : Int32) (x4 : Int32) : Prop := (¬ ((μ.1 49 3) ≤ x4) → ((v_X12_has (μ.1 52 (Int32.toNatClampNeg 21)) x4) = 0 → vp_in (7 + x4) 24))
set_option maxRecDepth 20000 in
set_option maxHeartbeats 4000000 in
theorem lw_X12_farthest_15 {E : Ex} {G : Gx} {Q : Option Value → Mm → Prop} {x1 : Int32} {x2 : Int32} {x3 : Int32} {x4 : Int32} {μ : Mm}  (p : whP (fun s : Int32 × Int32 × Int32 × Int32 => bd_X12_farthest_15  μ s.1 s.2.1 s.2.2.1 s.2.2.2) (fun s : Int32 × Int32 × Int32 × Int32 => sd_X12_farthest_15   μ s.1 s.2.1 s.2.2.1 s.2.2.2) FU (x1, x2, x3, x4)) (k : ∀ r : Int32 × Int32 × Int32, r = whl (fun s : Int32 × Int32 × Int32 × Int32 => bd_X12_farthest_15  μ s.1 s.2.1 s.2.2.1 s.2.2.2) (fun _ : Int32 × Int32 × Int32 × Int32 => (0, 0, 0)) FU (x1, x2, x3, x4) → J E G 2 mX12_farthest Q 118 [(0, rf E 49), (1, .int (r.1)), (2, .int (r.2.1)), (3, .int (r.2.2))] [] μ) : J E G 2 mX12_farthest Q 15 [(0, rf E 49), (1, .int x1), (2, .int x2), (3, .int x3), (4, .int x4)] [] μ := by
  refine J_whl (f := (fun s : Int32 × Int32 × Int32 × Int32 => bd_X12_farthest_15  μ s.1 s.2.1 s.2.2.1 s.2.2.2)) (dd := (fun _ : Int32 × Int32 × Int32 × Int32 => (0, 0, 0))) (sd := (fun s : Int32 × Int32 × Int32 × Int32 => sd_X12_farthest_15   μ s.1 s.2.1 s.2.2.1 s.2.2.2)) (P := fun s : Int32 × Int32 × Int32 × Int32 => J E G 2 mX12_farthest Q 15 [(0, rf E 49), (1, .int (s.1)), (2, .int (s.2.1)), (3, .int (s.2.2.1)), (4, .int (s.2.2.2))] [] (μ)) (R := fun r : Int32 × Int32 × Int32 => J E G 2 mX12_farthest Q 118 [(0, rf E 49), (1, .int (r.1)), (2, .int (r.2.1)), (3, .int (r.2.2))] [] μ) ?_ FU (x1, x2, x3, x4) p (k _ rfl)
  clear p k
  rintro ⟨x1, x2, x3, x4⟩ t k1 k2
  dsimp only [sd_X12_farthest_15] at t
  have kb : ∀ (y1 : Int32) (y2 : Int32) (y3 : Int32) (y4 : Int32) , bd_X12_farthest_15  μ x1 x2 x3 x4 = .inl (y1, y2, y3, y4) → J E G 2 mX12_farthest Q 15 [(0, rf E 49), (1, .int y1), (2, .int y2), (3, .int y3), (4, .int y4)] [] μ := fun y1 y2 y3 y4  h => k1 (y1, y2, y3, y4) h
  have kx : ∀ (y1 : Int32) (y2 : Int32) (y3 : Int32) , bd_X12_farthest_15  μ x1 x2 x3 x4 = .inr (y1, y2, y3) → J E G 2 mX12_farthest Q 118 [(0, rf E 49), (1, .int y1), (2, .int y2), (3, .int y3)] [] μ := fun y1 y2 y3  h => k2 (y1, y2, y3) h
  clear k1 k2
  refine J_iload (dk okX12_farthest 11 rfl) 4 rfl ?_
  refine J_aload_n (dk okX12_farthest 12 rfl) 0 rfl rfl ?_
  refine J_getI (dk okX12_farthest 13 rfl) kfX12_111 ds_49 rfl ?_
  refine J_icmp_ge (tgt := 118) (dk okX12_farthest 14 rfl) (by decide) (fun h1 => ?_) (fun h1 => ?_)
  · exact J_sub [0, 1, 2, 3] rfl (kx x1 x2 x3 (by unfold bd_X12_farthest_15; first | (simp only [if_pos h1]; done) | (simp only [if_pos h1]; rfl) | rfl))
  · have t := t h1
    refine J_aload_n (dk okX12_farthest 15 rfl) 0 rfl rfl ?_
    refine J_getR (dk okX12_farthest 16 rfl) kfX12_32 ds_49 rfl ?_
    refine J_bipush (v := 21) (dk okX12_farthest 17 rfl) (by decide) ?_
    refine J_iald (dk okX12_farthest 18 rfl) ds_52 (by unfold vp_in; decide) ?_
    refine J_iload (dk okX12_farthest 19 rfl) 4 rfl ?_
    refine J_callSi (As := [.int (μ.1 52 (Int32.toNatClampNeg 21)), .int x4]) (dk okX12_farthest 20 rfl) skX12_has lkX12_126 rfl rfl (Nat.le_of_ble_eq_true rfl) (by decide) (con_X12_has  ⟨_, rfl, ?_⟩)
    have K4 : J E G 2 mX12_farthest Q 56 [(0, rf E 49), (1, .int x1), (2, .int x2), (3, .int x3), (4, .int x4)] [.int (if (v_X12_has (μ.1 52 (Int32.toNatClampNeg 21)) x4) = 0 then (if 0 ≤ (μ.1 52 (Int32.toNatClampNeg (7 + x4))) then (μ.1 52 (Int32.toNatClampNeg (7 + x4))) else 0 - (μ.1 52 (Int32.toNatClampNeg (7 + x4)))) else (-1) : Int32)] μ := by
      refine J_istore (ls' := [(5, _), (0, _), (1, _), (2, _), (3, _), (4, _)]) (dk okX12_farthest 31 rfl) (by decide) rfl ?_
      refine J_iload (dk okX12_farthest 32 rfl) 0 rfl ?_
      refine J_iload_n (dk okX12_farthest 33 rfl) 3 rfl rfl ?_
      have K6 : J E G 2 mX12_farthest Q 69 [(0, rf E 49), (1, .int x1), (2, .int x2), (4, .int x4), (5, .int (if (v_X12_has (μ.1 52 (Int32.toNatClampNeg 21)) x4) = 0 then (if 0 ≤ (μ.1 52 (Int32.toNatClampNeg (7 + x4))) then (μ.1 52 (Int32.toNatClampNeg (7 + x4))) else 0 - (μ.1 52 (Int32.toNatClampNeg (7 + x4)))) else (-1) : Int32))] [.int (if (if (v_X12_has (μ.1 52 (Int32.toNatClampNeg 21)) x4) = 0 then (if 0 ≤ (μ.1 52 (Int32.toNatClampNeg (7 + x4))) then (μ.1 52 (Int32.toNatClampNeg (7 + x4))) else 0 - (μ.1 52 (Int32.toNatClampNeg (7 + x4)))) else (-1) : Int32) ≤ x2 then x3 else 0 : Int32)] μ := by
        refine J_istore_n (ls' := [(3, _), (0, _), (1, _), (2, _), (4, _), (5, _)]) (dk okX12_farthest 38 rfl) rfl (by decide) rfl ?_
        refine J_iload (dk okX12_farthest 39 rfl) 5 rfl ?_
        refine J_iload_n (dk okX12_farthest 40 rfl) 3 rfl rfl ?_
        have K8 : J E G 2 mX12_farthest Q 82 [(0, rf E 49), (2, .int x2), (3, .int (if (if (v_X12_has (μ.1 52 (Int32.toNatClampNeg 21)) x4) = 0 then (if 0 ≤ (μ.1 52 (Int32.toNatClampNeg (7 + x4))) then (μ.1 52 (Int32.toNatClampNeg (7 + x4))) else 0 - (μ.1 52 (Int32.toNatClampNeg (7 + x4)))) else (-1) : Int32) ≤ x2 then x3 else 0 : Int32)), (4, .int x4), (5, .int (if (v_X12_has (μ.1 52 (Int32.toNatClampNeg 21)) x4) = 0 then (if 0 ≤ (μ.1 52 (Int32.toNatClampNeg (7 + x4))) then (μ.1 52 (Int32.toNatClampNeg (7 + x4))) else 0 - (μ.1 52 (Int32.toNatClampNeg (7 + x4)))) else (-1) : Int32))] [.int (if (if (v_X12_has (μ.1 52 (Int32.toNatClampNeg 21)) x4) = 0 then (if 0 ≤ (μ.1 52 (Int32.toNatClampNeg (7 + x4))) then (μ.1 52 (Int32.toNatClampNeg (7 + x4))) else 0 - (μ.1 52 (Int32.toNatClampNeg (7 + x4)))) else (-1) : Int32) ≤ x2 then x1 else x4 : Int32)] μ := by
          refine J_istore_n (ls' := [(1, _), (0, _), (2, _), (3, _), (4, _), (5, _)]) (dk okX12_farthest 45 rfl) rfl (by decide) rfl ?_
          refine J_iload_n (dk okX12_farthest 46 rfl) 2 rfl rfl ?_
          refine J_iload (dk okX12_farthest 47 rfl) 5 rfl ?_
          refine J_mmax (dk okX12_farthest 48 rfl) lkX12_284 mk_max_s mk_Math mk_max_c (by decide) (Nat.le_of_ble_eq_true rfl) ?_
          refine J_istore_n (ls' := [(2, _), (1, _), (0, _), (3, _), (4, _), (5, _)]) (dk okX12_farthest 49 rfl) rfl (by decide) rfl ?_
          refine J_iload_n (dk okX12_farthest 50 rfl) 3 rfl rfl ?_
          refine J_iload (dk okX12_farthest 51 rfl) 5 rfl ?_
          have K11 : J E G 2 mX12_farthest Q 107 [(0, rf E 49), (1, .int (if (if (v_X12_has (μ.1 52 (Int32.toNatClampNeg 21)) x4) = 0 then (if 0 ≤ (μ.1 52 (Int32.toNatClampNeg (7 + x4))) then (μ.1 52 (Int32.toNatClampNeg (7 + x4))) else 0 - (μ.1 52 (Int32.toNatClampNeg (7 + x4)))) else (-1) : Int32) ≤ x2 then x1 else x4 : Int32)), (2, .int (if x2 < (if (v_X12_has (μ.1 52 (Int32.toNatClampNeg 21)) x4) = 0 then (if 0 ≤ (μ.1 52 (Int32.toNatClampNeg (7 + x4))) then (μ.1 52 (Int32.toNatClampNeg (7 + x4))) else 0 - (μ.1 52 (Int32.toNatClampNeg (7 + x4)))) else (-1) : Int32) then (if (v_X12_has (μ.1 52 (Int32.toNatClampNeg 21)) x4) = 0 then (if 0 ≤ (μ.1 52 (Int32.toNatClampNeg (7 + x4))) then (μ.1 52 (Int32.toNatClampNeg (7 + x4))) else 0 - (μ.1 52 (Int32.toNatClampNeg (7 + x4)))) else (-1) : Int32) else x2)), (4, .int x4)] [.int (if (if (v_X12_has (μ.1 52 (Int32.toNatClampNeg 21)) x4) = 0 then (if 0 ≤ (μ.1 52 (Int32.toNatClampNeg (7 + x4))) then (μ.1 52 (Int32.toNatClampNeg (7 + x4))) else 0 - (μ.1 52 (Int32.toNatClampNeg (7 + x4)))) else (-1) : Int32) < 0 then 0 else (if (if (v_X12_has (μ.1 52 (Int32.toNatClampNeg 21)) x4) = 0 then (if 0 ≤ (μ.1 52 (Int32.toNatClampNeg (7 + x4))) then (μ.1 52 (Int32.toNatClampNeg (7 + x4))) else 0 - (μ.1 52 (Int32.toNatClampNeg (7 + x4)))) else (-1) : Int32) = (if x2 < (if (v_X12_has (μ.1 52 (Int32.toNatClampNeg 21)) x4) = 0 then (if 0 ≤ (μ.1 52 (Int32.toNatClampNeg (7 + x4))) then (μ.1 52 (Int32.toNatClampNeg (7 + x4))) else 0 - (μ.1 52 (Int32.toNatClampNeg (7 + x4)))) else (-1) : Int32) then (if (v_X12_has (μ.1 52 (Int32.toNatClampNeg 21)) x4) = 0 then (if 0 ≤ (μ.1 52 (Int32.toNatClampNeg (7 + x4))) then (μ.1 52 (Int32.toNatClampNeg (7 + x4))) else 0 - (μ.1 52 (Int32.toNatClampNeg (7 + x4)))) else (-1) : Int32) else x2) then 1 else 0 : Int32) : Int32), .int (if (if (v_X12_has (μ.1 52 (Int32.toNatClampNeg 21)) x4) = 0 then (if 0 ≤ (μ.1 52 (Int32.toNatClampNeg (7 + x4))) then (μ.1 52 (Int32.toNatClampNeg (7 + x4))) else 0 - (μ.1 52 (Int32.toNatClampNeg (7 + x4)))) else (-1) : Int32) ≤ x2 then x3 else 0 : Int32)] μ := by
            refine J_callSi (As := [.int (if (if (v_X12_has (μ.1 52 (Int32.toNatClampNeg 21)) x4) = 0 then (if 0 ≤ (μ.1 52 (Int32.toNatClampNeg (7 + x4))) then (μ.1 52 (Int32.toNatClampNeg (7 + x4))) else 0 - (μ.1 52 (Int32.toNatClampNeg (7 + x4)))) else (-1) : Int32) < 0 then 0 else (if (if (v_X12_has (μ.1 52 (Int32.toNatClampNeg 21)) x4) = 0 then (if 0 ≤ (μ.1 52 (Int32.toNatClampNeg (7 + x4))) then (μ.1 52 (Int32.toNatClampNeg (7 + x4))) else 0 - (μ.1 52 (Int32.toNatClampNeg (7 + x4)))) else (-1) : Int32) = (if x2 < (if (v_X12_has (μ.1 52 (Int32.toNatClampNeg 21)) x4) = 0 then (if 0 ≤ (μ.1 52 (Int32.toNatClampNeg (7 + x4))) then (μ.1 52 (Int32.toNatClampNeg (7 + x4))) else 0 - (μ.1 52 (Int32.toNatClampNeg (7 + x4)))) else (-1) : Int32) then (if (v_X12_has (μ.1 52 (Int32.toNatClampNeg 21)) x4) = 0 then (if 0 ≤ (μ.1 52 (Int32.toNatClampNeg (7 + x4))) then (μ.1 52 (Int32.toNatClampNeg (7 + x4))) else 0 - (μ.1 52 (Int32.toNatClampNeg (7 + x4)))) else (-1) : Int32) else x2) then 1 else 0 : Int32) : Int32)]) (dk okX12_farthest 59 rfl) skX12_flag lkX12_137 rfl rfl (Nat.le_of_ble_eq_true rfl) (by decide) (con_X12_flag  ⟨_, rfl, ?_⟩)
            refine J_iadd (dk okX12_farthest 60 rfl) ?_
            refine J_istore_n (ls' := [(3, _), (0, _), (1, _), (2, _), (4, _)]) (dk okX12_farthest 61 rfl) rfl (by decide) rfl ?_
            refine J_iinc (v := (x4 + 1)) (ls' := [(4, _), (3, _), (0, _), (1, _), (2, _)]) (dk okX12_farthest 62 rfl) 4 rfl rfl (by decide) rfl ?_
            refine J_goto (tgt := 15) (dk okX12_farthest 63 rfl) (by decide) ?_
            exact J_sub [2, 3, 4, 1, 0] rfl (kb (if (if (v_X12_has (μ.1 52 (Int32.toNatClampNeg 21)) x4) = 0 then (if 0 ≤ (μ.1 52 (Int32.toNatClampNeg (7 + x4))) then (μ.1 52 (Int32.toNatClampNeg (7 + x4))) else 0 - (μ.1 52 (Int32.toNatClampNeg (7 + x4)))) else (-1) : Int32) ≤ x2 then x1 else x4 : Int32) (if x2 < (if (v_X12_has (μ.1 52 (Int32.toNatClampNeg 21)) x4) = 0 then (if 0 ≤ (μ.1 52 (Int32.toNatClampNeg (7 + x4))) then (μ.1 52 (Int32.toNatClampNeg (7 + x4))) else 0 - (μ.1 52 (Int32.toNatClampNeg (7 + x4)))) else (-1) : Int32) then (if (v_X12_has (μ.1 52 (Int32.toNatClampNeg 21)) x4) = 0 then (if 0 ≤ (μ.1 52 (Int32.toNatClampNeg (7 + x4))) then (μ.1 52 (Int32.toNatClampNeg (7 + x4))) else 0 - (μ.1 52 (Int32.toNatClampNeg (7 + x4)))) else (-1) : Int32) else x2) ((if (if (v_X12_has (μ.1 52 (Int32.toNatClampNeg 21)) x4) = 0 then (if 0 ≤ (μ.1 52 (Int32.toNatClampNeg (7 + x4))) then (μ.1 52 (Int32.toNatClampNeg (7 + x4))) else 0 - (μ.1 52 (Int32.toNatClampNeg (7 + x4)))) else (-1) : Int32) ≤ x2 then x3 else 0 : Int32) + (v_X12_flag (if (if (v_X12_has (μ.1 52 (Int32.toNatClampNeg 21)) x4) = 0 then (if 0 ≤ (μ.1 52 (Int32.toNatClampNeg (7 + x4))) then (μ.1 52 (Int32.toNatClampNeg (7 + x4))) else 0 - (μ.1 52 (Int32.toNatClampNeg (7 + x4)))) else (-1) : Int32) < 0 then 0 else (if (if (v_X12_has (μ.1 52 (Int32.toNatClampNeg 21)) x4) = 0 then (if 0 ≤ (μ.1 52 (Int32.toNatClampNeg (7 + x4))) then (μ.1 52 (Int32.toNatClampNeg (7 + x4))) else 0 - (μ.1 52 (Int32.toNatClampNeg (7 + x4)))) else (-1) : Int32) = (if x2 < (if (v_X12_has (μ.1 52 (Int32.toNatClampNeg 21)) x4) = 0 then (if 0 ≤ (μ.1 52 (Int32.toNatClampNeg (7 + x4))) then (μ.1 52 (Int32.toNatClampNeg (7 + x4))) else 0 - (μ.1 52 (Int32.toNatClampNeg (7 + x4)))) else (-1) : Int32) then (if (v_X12_has (μ.1 52 (Int32.toNatClampNeg 21)) x4) = 0 then (if 0 ≤ (μ.1 52 (Int32.toNatClampNeg (7 + x4))) then (μ.1 52 (Int32.toNatClampNeg (7 + x4))) else 0 - (μ.1 52 (Int32.toNatClampNeg (7 + x4)))) else (-1) : Int32) else x2) then 1 else 0 : Int32) : Int32))) (x4 + 1) (by unfold bd_X12_farthest_15; first | (simp only [if_neg h1]; done) | (simp only [if_neg h1]; rfl) | rfl))
          refine J_if_lt (tgt := 106) (dk okX12_farthest 52 rfl) (by decide) (fun h9 => ?_) (fun h9 => ?_)
          · refine J_iconst (v := 0) (dk okX12_farthest 58 rfl) (by decide) ?_
            refine J_sub (ls' := [(0, _), (1, _), (2, _), (4, _)]) [2, 1, 0, 4] rfl ?_
            (try simp only [if_pos h9] at K11 ⊢); exact K11
          · refine J_iload (dk okX12_farthest 53 rfl) 5 rfl ?_
            refine J_iload_n (dk okX12_farthest 54 rfl) 0 rfl rfl ?_
            refine J_icmp_ne (tgt := 106) (dk okX12_farthest 55 rfl) (by decide) (fun h10 => ?_) (fun h10 => ?_)
            · refine J_iconst (v := 0) (dk okX12_farthest 58 rfl) (by decide) ?_
              refine J_sub (ls' := [(0, _), (1, _), (2, _), (4, _)]) [2, 1, 0, 4] rfl ?_
              (try simp only [if_neg h9, if_neg h10] at K11 ⊢); exact K11
            · refine J_iconst (v := 1) (dk okX12_farthest 56 rfl) (by decide) ?_
              refine J_goto (tgt := 107) (dk okX12_farthest 57 rfl) (by decide) ?_
              refine J_sub (ls' := [(0, _), (1, _), (2, _), (4, _)]) [2, 1, 0, 4] rfl ?_
              (try simp only [if_neg h9, if_pos h10] at K11 ⊢); exact K11
        refine J_icmp_le (tgt := 81) (dk okX12_farthest 41 rfl) (by decide) (fun h7 => ?_) (fun h7 => ?_)
        · refine J_iload_n (dk okX12_farthest 44 rfl) 2 rfl rfl ?_
          refine J_sub (ls' := [(0, _), (2, _), (3, _), (4, _), (5, _)]) [1, 3, 0, 4, 5] rfl ?_
          (try simp only [if_pos h7] at K8 ⊢); exact K8
        · refine J_iload (dk okX12_farthest 42 rfl) 4 rfl ?_
          refine J_goto (tgt := 82) (dk okX12_farthest 43 rfl) (by decide) ?_
          refine J_sub (ls' := [(0, _), (2, _), (3, _), (4, _), (5, _)]) [1, 3, 0, 4, 5] rfl ?_
          (try simp only [if_neg h7] at K8 ⊢); exact K8
      refine J_icmp_le (tgt := 68) (dk okX12_farthest 34 rfl) (by decide) (fun h5 => ?_) (fun h5 => ?_)
      · refine J_iload_n (dk okX12_farthest 37 rfl) 4 rfl rfl ?_
        refine J_sub (ls' := [(0, _), (1, _), (2, _), (4, _), (5, _)]) [1, 2, 3, 5, 0] rfl ?_
        (try simp only [if_pos h5] at K6 ⊢); exact K6
      · refine J_iconst (v := 0) (dk okX12_farthest 35 rfl) (by decide) ?_
        refine J_goto (tgt := 69) (dk okX12_farthest 36 rfl) (by decide) ?_
        refine J_sub (ls' := [(0, _), (1, _), (2, _), (4, _), (5, _)]) [1, 2, 3, 5, 0] rfl ?_
        (try simp only [if_neg h5] at K6 ⊢); exact K6
    refine J_if_eq (tgt := 43) (dk okX12_farthest 21 rfl) (by decide) (fun h2 => ?_) (fun h2 => ?_)
    · have t := t h2
      refine J_aload_n (dk okX12_farthest 24 rfl) 0 rfl rfl ?_
      refine J_getR (dk okX12_farthest 25 rfl) kfX12_32 ds_49 rfl ?_
      refine J_bipush (v := 7) (dk okX12_farthest 26 rfl) (by decide) ?_
      refine J_iload (dk okX12_farthest 27 rfl) 4 rfl ?_
      refine J_iadd (dk okX12_farthest 28 rfl) ?_
      have s3 := t
      refine J_iald (dk okX12_farthest 29 rfl) ds_52 s3 ?_
      refine J_mabs (dk okX12_farthest 30 rfl) lkX12_293 mk_abs_s mk_Math mk_abs_c (by decide) (Nat.le_of_ble_eq_true rfl) ?_
      refine J_sub (ls' := [(0, _), (1, _), (2, _), (3, _), (4, _)]) [0, 1, 2, 3, 4] rfl ?_
      (try simp only [if_pos h2] at K4 ⊢); exact K4
    · refine J_iconst (v := (-1)) (dk okX12_farthest 22 rfl) (by decide) ?_
      refine J_goto (tgt := 56) (dk okX12_farthest 23 rfl) (by decide) ?_
      refine J_sub (ls' := [(0, _), (1, _), (2, _), (3, _), (4, _)]) [0, 1, 2, 3, 4] rfl ?_
      (try simp only [if_neg h2] at K4 ⊢); exact K4
/-- VotingFloorModel.farthest()I -/
noncomputable def v_X12_farthest  (μ : Mm) : Int32 := (let μ1 : Mm := (upI μ 49 0 0); (let r3 : Int32 × Int32 × Int32 := whl (fun s : Int32 × Int32 × Int32 × Int32 => bd_X12_farthest_15  μ1 s.1 s.2.1 s.2.2.1 s.2.2.2) (fun _ : Int32 × Int32 × Int32 × Int32 => (0, 0, 0)) FU ((-2), (-1), 0, 0); (r3.1)))
noncomputable def e_X12_farthest  (μ : Mm) : Mm := (let μ1 : Mm := (upI μ 49 0 0); (let r3 : Int32 × Int32 × Int32 := whl (fun s : Int32 × Int32 × Int32 × Int32 => bd_X12_farthest_15  μ1 s.1 s.2.1 s.2.2.1 s.2.2.2) (fun _ : Int32 × Int32 × Int32 × Int32 => (0, 0, 0)) FU ((-2), (-1), 0, 0); (let μ10 : Mm := (if (r3.1) < 0 then μ1 else ((e_X12_enters (Int32.toInt64 (r3.2.2)) ((e_X12_enters (Int32.toInt64 (r3.2.1)) ((upI μ1 49 1 0)))))) : Mm); μ10)))
def p_X12_farthest   (μ : Mm) : Prop := (∀ μ1 : Mm, μ1 = (upI μ 49 0 0) → (whP (fun s : Int32 × Int32 × Int32 × Int32 => bd_X12_farthest_15  μ1 s.1 s.2.1 s.2.2.1 s.2.2.2) (fun s : Int32 × Int32 × Int32 × Int32 => sd_X12_farthest_15   μ1 s.1 s.2.1 s.2.2.1 s.2.2.2) FU ((-2), (-1), 0, 0)) ∧ (∀ r3 : Int32 × Int32 × Int32, r3 = whl (fun s : Int32 × Int32 × Int32 × Int32 => bd_X12_farthest_15  μ1 s.1 s.2.1 s.2.2.1 s.2.2.2) (fun _ : Int32 × Int32 × Int32 × Int32 => (0, 0, 0)) FU ((-2), (-1), 0, 0) → (¬ ((r3.1) < 0) → (∀ μ5 : Mm, μ5 = (upI μ1 49 1 0) → (p_X12_enters (Int32.toInt64 (r3.2.1)) μ5) ∧ (∀ μ7 : Mm, μ7 = (e_X12_enters (Int32.toInt64 (r3.2.1)) μ5) → p_X12_enters (Int32.toInt64 (r3.2.2)) μ7)))))
set_option maxRecDepth 20000 in
set_option maxHeartbeats 4000000 in
theorem con_X12_farthest {E : Ex} {Q : Option Value → Mm → Prop} {μ : Mm} (t : p_X12_farthest   μ) (k : Q (some (.int (v_X12_farthest  μ))) (e_X12_farthest  μ)) : Con E 2 mX12_farthest [rf E 49] μ Q := by
  refine Con_J (by decide +kernel) (Nat.le_of_ble_eq_true rfl) (fun G => ?_)
  unfold v_X12_farthest e_X12_farthest at k
  unfold p_X12_farthest at t
  refine J_sub (ls' := [(0, rf E 49)]) [0] rfl ?_
  refine J_aload_n (dk okX12_farthest 0 rfl) 0 rfl rfl ?_
  refine J_iconst (v := 0) (dk okX12_farthest 1 rfl) (by decide) ?_
  refine J_put (dk okX12_farthest 2 rfl) kpX12_3 ds_49 rfl rfl rfl ?_
  refine J_nm (fun μ1 eμ1 => ?_)
  have t := t μ1 eμ1
  refine J_bipush (v := (-2)) (dk okX12_farthest 3 rfl) (by decide) ?_
  refine J_istore_n (ls' := [(1, _), (0, _)]) (dk okX12_farthest 4 rfl) rfl (by decide) rfl ?_
  refine J_iconst (v := (-1)) (dk okX12_farthest 5 rfl) (by decide) ?_
  refine J_istore_n (ls' := [(2, _), (1, _), (0, _)]) (dk okX12_farthest 6 rfl) rfl (by decide) rfl ?_
  refine J_iconst (v := 0) (dk okX12_farthest 7 rfl) (by decide) ?_
  refine J_istore_n (ls' := [(3, _), (2, _), (1, _), (0, _)]) (dk okX12_farthest 8 rfl) rfl (by decide) rfl ?_
  refine J_iconst (v := 0) (dk okX12_farthest 9 rfl) (by decide) ?_
  refine J_istore (ls' := [(4, _), (3, _), (2, _), (1, _), (0, _)]) (dk okX12_farthest 10 rfl) (by decide) rfl ?_
  obtain ⟨s2, t⟩ := t
  refine J_sub (ls' := [(0, _), (1, _), (2, _), (3, _), (4, _)]) [4, 3, 2, 1, 0] rfl ?_
  refine lw_X12_farthest_15  s2 (fun r3 er3 => ?_)
  have t := t r3 er3
  refine J_iload_n (dk okX12_farthest 64 rfl) 1 rfl rfl ?_
  have K11 : J E G 2 mX12_farthest Q 139 [(1, .int (r3.1))] [] (if (r3.1) < 0 then μ1 else ((e_X12_enters (Int32.toInt64 (r3.2.2)) ((e_X12_enters (Int32.toInt64 (r3.2.1)) ((upI μ1 49 1 0)))))) : Mm) := by
    refine J_nm (fun μ10 eμ10 => ?_)
    refine J_iload_n (dk okX12_farthest 77 rfl) 0 rfl rfl ?_
    subst eμ10 er3 eμ1
    exact J_iret (dk okX12_farthest 78 rfl) rfl k
  refine J_if_lt (tgt := 139) (dk okX12_farthest 65 rfl) (by decide) (fun h4 => ?_) (fun h4 => ?_)
  · refine J_sub (ls' := [(1, _)]) [1] rfl ?_
    (try simp only [if_pos h4] at K11 ⊢); exact K11
  · have t := t h4
    refine J_aload_n (dk okX12_farthest 66 rfl) 0 rfl rfl ?_
    refine J_iconst (v := 0) (dk okX12_farthest 67 rfl) (by decide) ?_
    refine J_put (dk okX12_farthest 68 rfl) kpX12_15 ds_49 rfl rfl rfl ?_
    refine J_nm (fun μ5 eμ5 => ?_)
    have t := t μ5 eμ5
    refine J_aload_n (dk okX12_farthest 69 rfl) 0 rfl rfl ?_
    refine J_iload_n (dk okX12_farthest 70 rfl) 2 rfl rfl ?_
    refine J_i2l (dk okX12_farthest 71 rfl) ?_
    obtain ⟨s6, t⟩ := t
    refine J_callVv (As := [.long (Int32.toInt64 (r3.2.1))]) (dk okX12_farthest 72 rfl) ds_49 rfl vkX12_enters lkX12_18 rfl rfl (Nat.le_of_ble_eq_true rfl) (by decide) (con_X12_enters s6 ⟨rfl, ?_⟩)
    refine J_nm (fun μ7 eμ7 => ?_)
    have t := t μ7 eμ7
    refine J_aload_n (dk okX12_farthest 73 rfl) 0 rfl rfl ?_
    refine J_iload_n (dk okX12_farthest 74 rfl) 3 rfl rfl ?_
    refine J_i2l (dk okX12_farthest 75 rfl) ?_
    have s8 := t
    refine J_callVv (As := [.long (Int32.toInt64 (r3.2.2))]) (dk okX12_farthest 76 rfl) ds_49 rfl vkX12_enters lkX12_18 rfl rfl (Nat.le_of_ble_eq_true rfl) (by decide) (con_X12_enters s8 ⟨rfl, ?_⟩)
    refine J_nm (fun μ9 eμ9 => ?_)
    subst eμ9 eμ7 eμ5
    refine J_sub (ls' := [(1, _)]) [1] rfl ?_
    (try simp only [if_neg h4] at K11 ⊢); exact K11
noncomputable def bd_X12_isRest_5  (μ : Mm) (x0 : Int32) (x1 : Int32) (x2 : Int32) (x3 : Int32) (x4 : Int32) : (Int32 × Int32 × Int32 × Int32 × Int32) ⊕ (Int32) := (if 9 < x4 then .inr x3 else .inl (x0, x1, x2, (if x3 = 0 then 0 else (if (v_X12_gets x0 x1 x2) < (v_X12_gets x4 x1 x2) then 0 else 1 : Int32) : Int32), (x4 + 1)))
def sd_X12_isRest_5   (μ : Mm) (x0 : Int32) (x1 : Int32) (x2 : Int32) (x3 : Int32) (x4 : Int32) : Prop := True
set_option maxRecDepth 20000 in
set_option maxHeartbeats 4000000 in
theorem lw_X12_isRest_5 {E : Ex} {G : Gx} {Q : Option Value → Mm → Prop} {x0 : Int32} {x1 : Int32} {x2 : Int32} {x3 : Int32} {x4 : Int32} {μ : Mm}  (p : whP (fun s : Int32 × Int32 × Int32 × Int32 × Int32 => bd_X12_isRest_5  μ s.1 s.2.1 s.2.2.1 s.2.2.2.1 s.2.2.2.2) (fun s : Int32 × Int32 × Int32 × Int32 × Int32 => sd_X12_isRest_5   μ s.1 s.2.1 s.2.2.1 s.2.2.2.1 s.2.2.2.2) FU (x0, x1, x2, x3, x4)) (k : ∀ r : Int32, r = whl (fun s : Int32 × Int32 × Int32 × Int32 × Int32 => bd_X12_isRest_5  μ s.1 s.2.1 s.2.2.1 s.2.2.2.1 s.2.2.2.2) (fun _ : Int32 × Int32 × Int32 × Int32 × Int32 => 0) FU (x0, x1, x2, x3, x4) → J E G 2 mX12_isRest Q 44 [(3, .int r)] [] μ) : J E G 2 mX12_isRest Q 5 [(0, .int x0), (1, .int x1), (2, .int x2), (3, .int x3), (4, .int x4)] [] μ := by
  refine J_whl (f := (fun s : Int32 × Int32 × Int32 × Int32 × Int32 => bd_X12_isRest_5  μ s.1 s.2.1 s.2.2.1 s.2.2.2.1 s.2.2.2.2)) (dd := (fun _ : Int32 × Int32 × Int32 × Int32 × Int32 => 0)) (sd := (fun s : Int32 × Int32 × Int32 × Int32 × Int32 => sd_X12_isRest_5   μ s.1 s.2.1 s.2.2.1 s.2.2.2.1 s.2.2.2.2)) (P := fun s : Int32 × Int32 × Int32 × Int32 × Int32 => J E G 2 mX12_isRest Q 5 [(0, .int (s.1)), (1, .int (s.2.1)), (2, .int (s.2.2.1)), (3, .int (s.2.2.2.1)), (4, .int (s.2.2.2.2))] [] (μ)) (R := fun r : Int32 => J E G 2 mX12_isRest Q 44 [(3, .int r)] [] μ) ?_ FU (x0, x1, x2, x3, x4) p (k _ rfl)
  clear p k
  rintro ⟨x0, x1, x2, x3, x4⟩ t k1 k2
  dsimp only [sd_X12_isRest_5] at t
  have kb : ∀ (y0 : Int32) (y1 : Int32) (y2 : Int32) (y3 : Int32) (y4 : Int32) , bd_X12_isRest_5  μ x0 x1 x2 x3 x4 = .inl (y0, y1, y2, y3, y4) → J E G 2 mX12_isRest Q 5 [(0, .int y0), (1, .int y1), (2, .int y2), (3, .int y3), (4, .int y4)] [] μ := fun y0 y1 y2 y3 y4  h => k1 (y0, y1, y2, y3, y4) h
  have kx : ∀ (y3 : Int32) , bd_X12_isRest_5  μ x0 x1 x2 x3 x4 = .inr y3 → J E G 2 mX12_isRest Q 44 [(3, .int y3)] [] μ := fun y3  h => k2 y3 h
  clear k1 k2
  refine J_iload (dk okX12_isRest 4 rfl) 4 rfl ?_
  refine J_bipush (v := 9) (dk okX12_isRest 5 rfl) (by decide) ?_
  refine J_icmp_gt (tgt := 44) (dk okX12_isRest 6 rfl) (by decide) (fun h1 => ?_) (fun h1 => ?_)
  · exact J_sub [3] rfl (kx x3 (by unfold bd_X12_isRest_5; first | (simp only [if_pos h1]; done) | (simp only [if_pos h1]; rfl) | rfl))
  · refine J_iload_n (dk okX12_isRest 7 rfl) 3 rfl rfl ?_
    have K4 : J E G 2 mX12_isRest Q 37 [(0, .int x0), (1, .int x1), (2, .int x2), (4, .int x4)] [.int (if x3 = 0 then 0 else (if (v_X12_gets x0 x1 x2) < (v_X12_gets x4 x1 x2) then 0 else 1 : Int32) : Int32)] μ := by
      refine J_istore_n (ls' := [(3, _), (0, _), (1, _), (2, _), (4, _)]) (dk okX12_isRest 21 rfl) rfl (by decide) rfl ?_
      refine J_iinc (v := (x4 + 1)) (ls' := [(4, _), (3, _), (0, _), (1, _), (2, _)]) (dk okX12_isRest 22 rfl) 4 rfl rfl (by decide) rfl ?_
      refine J_goto (tgt := 5) (dk okX12_isRest 23 rfl) (by decide) ?_
      exact J_sub [2, 3, 4, 1, 0] rfl (kb x0 x1 x2 (if x3 = 0 then 0 else (if (v_X12_gets x0 x1 x2) < (v_X12_gets x4 x1 x2) then 0 else 1 : Int32) : Int32) (x4 + 1) (by unfold bd_X12_isRest_5; first | (simp only [if_neg h1]; done) | (simp only [if_neg h1]; rfl) | rfl))
    refine J_if_eq (tgt := 36) (dk okX12_isRest 8 rfl) (by decide) (fun h2 => ?_) (fun h2 => ?_)
    · refine J_iconst (v := 0) (dk okX12_isRest 20 rfl) (by decide) ?_
      refine J_sub (ls' := [(0, _), (1, _), (2, _), (4, _)]) [0, 1, 2, 4] rfl ?_
      (try simp only [if_pos h2] at K4 ⊢); exact K4
    · refine J_iload (dk okX12_isRest 9 rfl) 4 rfl ?_
      refine J_iload_n (dk okX12_isRest 10 rfl) 1 rfl rfl ?_
      refine J_iload_n (dk okX12_isRest 11 rfl) 2 rfl rfl ?_
      refine J_callSi (As := [.int x4, .int x1, .int x2]) (dk okX12_isRest 12 rfl) skX12_gets lkX12_432 rfl rfl (Nat.le_of_ble_eq_true rfl) (by decide) (con_X12_gets  ⟨_, rfl, ?_⟩)
      refine J_iload_n (dk okX12_isRest 13 rfl) 0 rfl rfl ?_
      refine J_iload_n (dk okX12_isRest 14 rfl) 1 rfl rfl ?_
      refine J_iload_n (dk okX12_isRest 15 rfl) 2 rfl rfl ?_
      refine J_callSi (As := [.int x0, .int x1, .int x2]) (dk okX12_isRest 16 rfl) skX12_gets lkX12_432 rfl rfl (Nat.le_of_ble_eq_true rfl) (by decide) (con_X12_gets  ⟨_, rfl, ?_⟩)
      refine J_icmp_gt (tgt := 36) (dk okX12_isRest 17 rfl) (by decide) (fun h3 => ?_) (fun h3 => ?_)
      · refine J_iconst (v := 0) (dk okX12_isRest 20 rfl) (by decide) ?_
        refine J_sub (ls' := [(0, _), (1, _), (2, _), (4, _)]) [0, 1, 2, 4] rfl ?_
        (try simp only [if_neg h2, if_pos h3] at K4 ⊢); exact K4
      · refine J_iconst (v := 1) (dk okX12_isRest 18 rfl) (by decide) ?_
        refine J_goto (tgt := 37) (dk okX12_isRest 19 rfl) (by decide) ?_
        refine J_sub (ls' := [(0, _), (1, _), (2, _), (4, _)]) [0, 1, 2, 4] rfl ?_
        (try simp only [if_neg h2, if_neg h3] at K4 ⊢); exact K4
/-- VotingFloorModel.isRest(III)Z -/
noncomputable def v_X12_isRest (p0 : Int32) (p1 : Int32) (p2 : Int32) (μ : Mm) : Int32 := (let r2 : Int32 := whl (fun s : Int32 × Int32 × Int32 × Int32 × Int32 => bd_X12_isRest_5  μ s.1 s.2.1 s.2.2.1 s.2.2.2.1 s.2.2.2.2) (fun _ : Int32 × Int32 × Int32 × Int32 × Int32 => 0) FU (p0, p1, p2, 1, 0); r2)
def p_X12_isRest (p0 : Int32) (p1 : Int32) (p2 : Int32)  (μ : Mm) : Prop := (whP (fun s : Int32 × Int32 × Int32 × Int32 × Int32 => bd_X12_isRest_5  μ s.1 s.2.1 s.2.2.1 s.2.2.2.1 s.2.2.2.2) (fun s : Int32 × Int32 × Int32 × Int32 × Int32 => sd_X12_isRest_5   μ s.1 s.2.1 s.2.2.1 s.2.2.2.1 s.2.2.2.2) FU (p0, p1, p2, 1, 0)) ∧ (∀ r2 : Int32, r2 = whl (fun s : Int32 × Int32 × Int32 × Int32 × Int32 => bd_X12_isRest_5  μ s.1 s.2.1 s.2.2.1 s.2.2.2.1 s.2.2.2.2) (fun _ : Int32 × Int32 × Int32 × Int32 × Int32 => 0) FU (p0, p1, p2, 1, 0) → narrow .boolean (.int r2) = .int r2)
set_option maxRecDepth 20000 in
set_option maxHeartbeats 4000000 in
theorem con_X12_isRest {E : Ex} {Q : Option Value → Mm → Prop} {p0 : Int32} {p1 : Int32} {p2 : Int32} {μ : Mm} (t : p_X12_isRest p0 p1 p2  μ) (k : Q (some (.int (v_X12_isRest p0 p1 p2 μ))) μ) : Con E 2 mX12_isRest [.int p0, .int p1, .int p2] μ Q := by
  refine Con_J (by decide +kernel) (Nat.le_of_ble_eq_true rfl) (fun G => ?_)
  unfold v_X12_isRest at k
  unfold p_X12_isRest at t
  refine J_sub (ls' := [(0, .int p0), (1, .int p1), (2, .int p2)]) [0, 1, 2] rfl ?_
  refine J_iconst (v := 1) (dk okX12_isRest 0 rfl) (by decide) ?_
  refine J_istore_n (ls' := [(3, _), (0, _), (1, _), (2, _)]) (dk okX12_isRest 1 rfl) rfl (by decide) rfl ?_
  refine J_iconst (v := 0) (dk okX12_isRest 2 rfl) (by decide) ?_
  refine J_istore (ls' := [(4, _), (3, _), (0, _), (1, _), (2, _)]) (dk okX12_isRest 3 rfl) (by decide) rfl ?_
  obtain ⟨s1, t⟩ := t
  refine J_sub (ls' := [(0, _), (1, _), (2, _), (3, _), (4, _)]) [2, 3, 4, 1, 0] rfl ?_
  refine lw_X12_isRest_5  s1 (fun r2 er2 => ?_)
  have t := t r2 er2
  refine J_iload_n (dk okX12_isRest 24 rfl) 0 rfl rfl ?_
  have s3 := t
  subst er2
  exact J_zret (dk okX12_isRest 25 rfl) rfl s3 k
noncomputable def bd_X12_keep_38  (x1 : Int32) (x2 : Int32) (μ : Mm) : (Int32 × Int32 × Mm) ⊕ (Mm) := (if 24 ≤ x2 then .inr μ else (let μ4 : Mm := (upI μ 77 (Int32.toNatClampNeg ((24 * x1) + x2)) (μ.1 52 (Int32.toNatClampNeg x2))); .inl (x1, (x2 + 1), μ4)))
def sd_X12_keep_38   (x1 : Int32) (x2 : Int32) (μ : Mm) : Prop := (¬ (24 ≤ x2) → (vp_in x2 24) ∧ vp_in ((24 * x1) + x2) 72)
set_option maxRecDepth 20000 in
set_option maxHeartbeats 4000000 in
theorem lw_X12_keep_38 {E : Ex} {G : Gx} {Q : Option Value → Mm → Prop} {x1 : Int32} {x2 : Int32} {μ : Mm}  (p : whP (fun s : Int32 × Int32 × Mm => bd_X12_keep_38  s.1 s.2.1 s.2.2) (fun s : Int32 × Int32 × Mm => sd_X12_keep_38   s.1 s.2.1 s.2.2) FU (x1, x2, μ)) (k : ∀ r : Mm, r = whl (fun s : Int32 × Int32 × Mm => bd_X12_keep_38  s.1 s.2.1 s.2.2) (fun s : Int32 × Int32 × Mm => s.2.2) FU (x1, x2, μ) → J E G 2 mX12_keep Q 67 [] [] r) : J E G 2 mX12_keep Q 38 [(0, rf E 49), (1, .int x1), (2, .int x2)] [] μ := by
  refine J_whl (f := (fun s : Int32 × Int32 × Mm => bd_X12_keep_38  s.1 s.2.1 s.2.2)) (dd := (fun s : Int32 × Int32 × Mm => s.2.2)) (sd := (fun s : Int32 × Int32 × Mm => sd_X12_keep_38   s.1 s.2.1 s.2.2)) (P := fun s : Int32 × Int32 × Mm => J E G 2 mX12_keep Q 38 [(0, rf E 49), (1, .int (s.1)), (2, .int (s.2.1))] [] (s.2.2)) (R := fun r : Mm => J E G 2 mX12_keep Q 67 [] [] r) ?_ FU (x1, x2, μ) p (k _ rfl)
  clear p k
  rintro ⟨x1, x2, μ⟩ t k1 k2
  dsimp only [sd_X12_keep_38] at t
  have kb : ∀ (y1 : Int32) (y2 : Int32) (μ9 : Mm), bd_X12_keep_38  x1 x2 μ = .inl (y1, y2, μ9) → J E G 2 mX12_keep Q 38 [(0, rf E 49), (1, .int y1), (2, .int y2)] [] μ9 := fun y1 y2 μ9 h => k1 (y1, y2, μ9) h
  have kx : ∀  (μ9 : Mm), bd_X12_keep_38  x1 x2 μ = .inr μ9 → J E G 2 mX12_keep Q 67 [] [] μ9 := fun  μ9 h => k2 μ9 h
  clear k1 k2
  refine J_iload_n (dk okX12_keep 24 rfl) 2 rfl rfl ?_
  refine J_bipush (v := 24) (dk okX12_keep 25 rfl) (by decide) ?_
  refine J_icmp_ge (tgt := 67) (dk okX12_keep 26 rfl) (by decide) (fun h1 => ?_) (fun h1 => ?_)
  · exact J_sub [] rfl (kx μ (by unfold bd_X12_keep_38; first | (simp only [if_pos h1]; done) | (simp only [if_pos h1]; rfl) | rfl))
  · have t := t h1
    refine J_aload_n (dk okX12_keep 27 rfl) 0 rfl rfl ?_
    refine J_getR (dk okX12_keep 28 rfl) kfX12_108 ds_49 rfl ?_
    refine J_bipush (v := 24) (dk okX12_keep 29 rfl) (by decide) ?_
    refine J_iload_n (dk okX12_keep 30 rfl) 1 rfl rfl ?_
    refine J_imul (dk okX12_keep 31 rfl) ?_
    refine J_iload_n (dk okX12_keep 32 rfl) 2 rfl rfl ?_
    refine J_iadd (dk okX12_keep 33 rfl) ?_
    refine J_aload_n (dk okX12_keep 34 rfl) 0 rfl rfl ?_
    refine J_getR (dk okX12_keep 35 rfl) kfX12_32 ds_49 rfl ?_
    refine J_iload_n (dk okX12_keep 36 rfl) 2 rfl rfl ?_
    obtain ⟨s2, t⟩ := t
    refine J_iald (dk okX12_keep 37 rfl) ds_52 s2 ?_
    have s3 := t
    refine J_iast (dk okX12_keep 38 rfl) ds_77 s3 ?_
    refine J_nm (fun μ4 eμ4 => ?_)
    refine J_iinc (v := (x2 + 1)) (ls' := [(2, _), (0, _), (1, _)]) (dk okX12_keep 39 rfl) 2 rfl rfl (by decide) rfl ?_
    refine J_goto (tgt := 38) (dk okX12_keep 40 rfl) (by decide) ?_
    exact J_sub [1, 2, 0] rfl (kb x1 (x2 + 1) μ4 (by subst eμ4; unfold bd_X12_keep_38; first | (simp only [if_neg h1]; done) | (simp only [if_neg h1]; rfl) | rfl))
/-- VotingFloorModel.keep(I)Z -/
noncomputable def v_X12_keep (p0 : Int32) : Int32 := (if (v_X12_in (Int32.toInt64 p0) 0 2) = 0 then 0 else 1)
noncomputable def e_X12_keep (p0 : Int32) (μ : Mm) : Mm := (let μ1 : Mm := (upI μ 49 0 0); (if (v_X12_in (Int32.toInt64 p0) 0 2) = 0 then μ1 else (let μ4 : Mm := (upI μ1 75 (Int32.toNatClampNeg p0) (vp_nar .boolean 1)); (let μ6 : Mm := (upI μ4 76 (Int32.toNatClampNeg p0) (μ4.1 49 4)); (let r8 : Mm := whl (fun s : Int32 × Int32 × Mm => bd_X12_keep_38  s.1 s.2.1 s.2.2) (fun s : Int32 × Int32 × Mm => s.2.2) FU (p0, 0, μ6); r8)))))
def p_X12_keep (p0 : Int32)  (μ : Mm) : Prop := (∀ μ1 : Mm, μ1 = (upI μ 49 0 0) → (¬ ((v_X12_in (Int32.toInt64 p0) 0 2) = 0) → (vp_in p0 3) ∧ (∀ μ4 : Mm, μ4 = (upI μ1 75 (Int32.toNatClampNeg p0) (vp_nar .boolean 1)) → (vp_in p0 3) ∧ (∀ μ6 : Mm, μ6 = (upI μ4 76 (Int32.toNatClampNeg p0) (μ4.1 49 4)) → whP (fun s : Int32 × Int32 × Mm => bd_X12_keep_38  s.1 s.2.1 s.2.2) (fun s : Int32 × Int32 × Mm => sd_X12_keep_38   s.1 s.2.1 s.2.2) FU (p0, 0, μ6)))))
set_option maxRecDepth 20000 in
set_option maxHeartbeats 4000000 in
theorem con_X12_keep {E : Ex} {Q : Option Value → Mm → Prop} {p0 : Int32} {μ : Mm} (t : p_X12_keep p0  μ) (k : Q (some (.int (v_X12_keep p0))) (e_X12_keep p0 μ)) : Con E 2 mX12_keep [rf E 49, .int p0] μ Q := by
  refine Con_J (by decide +kernel) (Nat.le_of_ble_eq_true rfl) (fun G => ?_)
  unfold v_X12_keep e_X12_keep at k
  unfold p_X12_keep at t
  refine J_sub (ls' := [(0, rf E 49), (1, .int p0)]) [0, 1] rfl ?_
  refine J_aload_n (dk okX12_keep 0 rfl) 0 rfl rfl ?_
  refine J_iconst (v := 0) (dk okX12_keep 1 rfl) (by decide) ?_
  refine J_put (dk okX12_keep 2 rfl) kpX12_3 ds_49 rfl rfl rfl ?_
  refine J_nm (fun μ1 eμ1 => ?_)
  have t := t μ1 eμ1
  refine J_iload_n (dk okX12_keep 3 rfl) 1 rfl rfl ?_
  refine J_i2l (dk okX12_keep 4 rfl) ?_
  refine J_lconst (v := 0) (dk okX12_keep 5 rfl) (by decide) ?_
  refine J_ldc2 (v := 2) (dk okX12_keep 6 rfl) kcX12_430 ?_
  refine J_callSi (As := [.long (Int32.toInt64 p0), .long 0, .long 2]) (dk okX12_keep 7 rfl) skX12_in lkX12_114 rfl rfl (Nat.le_of_ble_eq_true rfl) (by decide) (con_X12_in  ⟨_, rfl, ?_⟩)
  refine J_if_ne (tgt := 19) (dk okX12_keep 8 rfl) (by decide) (fun h2 => ?_) (fun h2 => ?_)
  · have t := t h2
    refine J_aload_n (dk okX12_keep 11 rfl) 0 rfl rfl ?_
    refine J_getR (dk okX12_keep 12 rfl) kfX12_101 ds_49 rfl ?_
    refine J_iload_n (dk okX12_keep 13 rfl) 1 rfl rfl ?_
    refine J_iconst (v := 1) (dk okX12_keep 14 rfl) (by decide) ?_
    obtain ⟨s3, t⟩ := t
    refine J_zast (dk okX12_keep 15 rfl) ds_75 s3 ?_
    refine J_nm (fun μ4 eμ4 => ?_)
    have t := t μ4 eμ4
    refine J_aload_n (dk okX12_keep 16 rfl) 0 rfl rfl ?_
    refine J_getR (dk okX12_keep 17 rfl) kfX12_105 ds_49 rfl ?_
    refine J_iload_n (dk okX12_keep 18 rfl) 1 rfl rfl ?_
    refine J_aload_n (dk okX12_keep 19 rfl) 0 rfl rfl ?_
    refine J_getI (dk okX12_keep 20 rfl) kfX12_216 ds_49 rfl ?_
    obtain ⟨s5, t⟩ := t
    refine J_iast (dk okX12_keep 21 rfl) ds_76 s5 ?_
    refine J_nm (fun μ6 eμ6 => ?_)
    have t := t μ6 eμ6
    refine J_iconst (v := 0) (dk okX12_keep 22 rfl) (by decide) ?_
    refine J_istore_n (ls' := [(2, _), (0, _), (1, _)]) (dk okX12_keep 23 rfl) rfl (by decide) rfl ?_
    have s7 := t
    refine J_sub (ls' := [(0, _), (1, _), (2, _)]) [1, 2, 0] rfl ?_
    refine lw_X12_keep_38  s7 (fun r8 er8 => ?_)
    refine J_iconst (v := 1) (dk okX12_keep 41 rfl) (by decide) ?_
    subst er8 eμ6 eμ4 eμ1
    (try simp only [if_neg h2] at k ⊢)
    exact J_zret (dk okX12_keep 42 rfl) rfl rfl k
  · refine J_iconst (v := 0) (dk okX12_keep 9 rfl) (by decide) ?_
    subst eμ1
    (try simp only [if_pos h2] at k ⊢)
    exact J_zret (dk okX12_keep 10 rfl) rfl rfl k
theorem nb_X12_keep (p0 : Int32) : narrow .boolean (.int (v_X12_keep p0)) = .int (v_X12_keep p0) := by
  unfold v_X12_keep; (repeat' split) <;> rfl
noncomputable def bd_X12_plank_60  (μ : Mm) (x1 : Int32) (x2 : Int32) (x3 : Int32) (x4 : Int32) (x5 : Int32) (x6 : Int32) : (Int32 × Int32 × Int32 × Int32 × Int32 × Int32) ⊕ (Int32 × Int32 × Int32 × Int32 × Int32) := (if x6 ≤ 0 then .inr (x1, x2, x3, x4, x5) else .inl (x1, x2, x3, x4, (if x6 = x4 then x5 else (if (μ.1 73 (Int32.toNatClampNeg ((10 * (x3 - x6)) + x6))) = 0 then x6 else x5 : Int32) : Int32), (x6 + (-1))))
def sd_X12_plank_60   (μ : Mm) (x1 : Int32) (x2 : Int32) (x3 : Int32) (x4 : Int32) (x5 : Int32) (x6 : Int32) : Prop := (¬ (x6 ≤ 0) → (¬ (x6 = x4) → vp_in ((10 * (x3 - x6)) + x6) 610))
set_option maxRecDepth 20000 in
set_option maxHeartbeats 4000000 in
theorem lw_X12_plank_60 {E : Ex} {G : Gx} {Q : Option Value → Mm → Prop} {x1 : Int32} {x2 : Int32} {x3 : Int32} {x4 : Int32} {x5 : Int32} {x6 : Int32} {μ : Mm}  (p : whP (fun s : Int32 × Int32 × Int32 × Int32 × Int32 × Int32 => bd_X12_plank_60  μ s.1 s.2.1 s.2.2.1 s.2.2.2.1 s.2.2.2.2.1 s.2.2.2.2.2) (fun s : Int32 × Int32 × Int32 × Int32 × Int32 × Int32 => sd_X12_plank_60   μ s.1 s.2.1 s.2.2.1 s.2.2.2.1 s.2.2.2.2.1 s.2.2.2.2.2) FU (x1, x2, x3, x4, x5, x6)) (k : ∀ r : Int32 × Int32 × Int32 × Int32 × Int32, r = whl (fun s : Int32 × Int32 × Int32 × Int32 × Int32 × Int32 => bd_X12_plank_60  μ s.1 s.2.1 s.2.2.1 s.2.2.2.1 s.2.2.2.2.1 s.2.2.2.2.2) (fun _ : Int32 × Int32 × Int32 × Int32 × Int32 × Int32 => (0, 0, 0, 0, 0)) FU (x1, x2, x3, x4, x5, x6) → J E G 2 mX12_plank Q 105 [(0, rf E 49), (1, .int (r.1)), (2, .int (r.2.1)), (3, .int (r.2.2.1)), (4, .int (r.2.2.2.1)), (5, .int (r.2.2.2.2))] [] μ) : J E G 2 mX12_plank Q 60 [(0, rf E 49), (1, .int x1), (2, .int x2), (3, .int x3), (4, .int x4), (5, .int x5), (6, .int x6)] [] μ := by
  refine J_whl (f := (fun s : Int32 × Int32 × Int32 × Int32 × Int32 × Int32 => bd_X12_plank_60  μ s.1 s.2.1 s.2.2.1 s.2.2.2.1 s.2.2.2.2.1 s.2.2.2.2.2)) (dd := (fun _ : Int32 × Int32 × Int32 × Int32 × Int32 × Int32 => (0, 0, 0, 0, 0))) (sd := (fun s : Int32 × Int32 × Int32 × Int32 × Int32 × Int32 => sd_X12_plank_60   μ s.1 s.2.1 s.2.2.1 s.2.2.2.1 s.2.2.2.2.1 s.2.2.2.2.2)) (P := fun s : Int32 × Int32 × Int32 × Int32 × Int32 × Int32 => J E G 2 mX12_plank Q 60 [(0, rf E 49), (1, .int (s.1)), (2, .int (s.2.1)), (3, .int (s.2.2.1)), (4, .int (s.2.2.2.1)), (5, .int (s.2.2.2.2.1)), (6, .int (s.2.2.2.2.2))] [] (μ)) (R := fun r : Int32 × Int32 × Int32 × Int32 × Int32 => J E G 2 mX12_plank Q 105 [(0, rf E 49), (1, .int (r.1)), (2, .int (r.2.1)), (3, .int (r.2.2.1)), (4, .int (r.2.2.2.1)), (5, .int (r.2.2.2.2))] [] μ) ?_ FU (x1, x2, x3, x4, x5, x6) p (k _ rfl)
  clear p k
  rintro ⟨x1, x2, x3, x4, x5, x6⟩ t k1 k2
  dsimp only [sd_X12_plank_60] at t
  have kb : ∀ (y1 : Int32) (y2 : Int32) (y3 : Int32) (y4 : Int32) (y5 : Int32) (y6 : Int32) , bd_X12_plank_60  μ x1 x2 x3 x4 x5 x6 = .inl (y1, y2, y3, y4, y5, y6) → J E G 2 mX12_plank Q 60 [(0, rf E 49), (1, .int y1), (2, .int y2), (3, .int y3), (4, .int y4), (5, .int y5), (6, .int y6)] [] μ := fun y1 y2 y3 y4 y5 y6  h => k1 (y1, y2, y3, y4, y5, y6) h
  have kx : ∀ (y1 : Int32) (y2 : Int32) (y3 : Int32) (y4 : Int32) (y5 : Int32) , bd_X12_plank_60  μ x1 x2 x3 x4 x5 x6 = .inr (y1, y2, y3, y4, y5) → J E G 2 mX12_plank Q 105 [(0, rf E 49), (1, .int y1), (2, .int y2), (3, .int y3), (4, .int y4), (5, .int y5)] [] μ := fun y1 y2 y3 y4 y5  h => k2 (y1, y2, y3, y4, y5) h
  clear k1 k2
  refine J_iload (dk okX12_plank 33 rfl) 6 rfl ?_
  refine J_if_le (tgt := 105) (dk okX12_plank 34 rfl) (by decide) (fun h1 => ?_) (fun h1 => ?_)
  · exact J_sub [0, 1, 2, 3, 4, 5] rfl (kx x1 x2 x3 x4 x5 (by unfold bd_X12_plank_60; first | (simp only [if_pos h1]; done) | (simp only [if_pos h1]; rfl) | rfl))
  · have t := t h1
    refine J_iload (dk okX12_plank 35 rfl) 6 rfl ?_
    refine J_iload (dk okX12_plank 36 rfl) 4 rfl ?_
    have K5 : J E G 2 mX12_plank Q 97 [(0, rf E 49), (1, .int x1), (2, .int x2), (3, .int x3), (4, .int x4), (6, .int x6)] [.int (if x6 = x4 then x5 else (if (μ.1 73 (Int32.toNatClampNeg ((10 * (x3 - x6)) + x6))) = 0 then x6 else x5 : Int32) : Int32)] μ := by
      refine J_istore (ls' := [(5, _), (0, _), (1, _), (2, _), (3, _), (4, _), (6, _)]) (dk okX12_plank 52 rfl) (by decide) rfl ?_
      refine J_iinc (v := (x6 + (-1))) (ls' := [(6, _), (5, _), (0, _), (1, _), (2, _), (3, _), (4, _)]) (dk okX12_plank 53 rfl) 6 rfl rfl (by decide) rfl ?_
      refine J_goto (tgt := 60) (dk okX12_plank 54 rfl) (by decide) ?_
      exact J_sub [2, 3, 4, 5, 6, 1, 0] rfl (kb x1 x2 x3 x4 (if x6 = x4 then x5 else (if (μ.1 73 (Int32.toNatClampNeg ((10 * (x3 - x6)) + x6))) = 0 then x6 else x5 : Int32) : Int32) (x6 + (-1)) (by unfold bd_X12_plank_60; first | (simp only [if_neg h1]; done) | (simp only [if_neg h1]; rfl) | rfl))
    refine J_icmp_eq (tgt := 95) (dk okX12_plank 37 rfl) (by decide) (fun h2 => ?_) (fun h2 => ?_)
    · refine J_iload (dk okX12_plank 51 rfl) 5 rfl ?_
      refine J_sub (ls' := [(0, _), (1, _), (2, _), (3, _), (4, _), (6, _)]) [0, 1, 2, 3, 4, 6] rfl ?_
      (try simp only [if_pos h2] at K5 ⊢); exact K5
    · have t := t h2
      refine J_aload_n (dk okX12_plank 38 rfl) 0 rfl rfl ?_
      refine J_getR (dk okX12_plank 39 rfl) kfX12_95 ds_49 rfl ?_
      refine J_bipush (v := 10) (dk okX12_plank 40 rfl) (by decide) ?_
      refine J_iload_n (dk okX12_plank 41 rfl) 3 rfl rfl ?_
      refine J_iload (dk okX12_plank 42 rfl) 6 rfl ?_
      refine J_isub (dk okX12_plank 43 rfl) ?_
      refine J_imul (dk okX12_plank 44 rfl) ?_
      refine J_iload (dk okX12_plank 45 rfl) 6 rfl ?_
      refine J_iadd (dk okX12_plank 46 rfl) ?_
      have s3 := t
      refine J_iald (dk okX12_plank 47 rfl) ds_73 s3 ?_
      refine J_if_ne (tgt := 95) (dk okX12_plank 48 rfl) (by decide) (fun h4 => ?_) (fun h4 => ?_)
      · refine J_iload (dk okX12_plank 51 rfl) 5 rfl ?_
        refine J_sub (ls' := [(0, _), (1, _), (2, _), (3, _), (4, _), (6, _)]) [0, 1, 2, 3, 4, 6] rfl ?_
        (try simp only [if_neg h2, if_neg h4] at K5 ⊢); exact K5
      · refine J_iload (dk okX12_plank 49 rfl) 6 rfl ?_
        refine J_goto (tgt := 97) (dk okX12_plank 50 rfl) (by decide) ?_
        refine J_sub (ls' := [(0, _), (1, _), (2, _), (3, _), (4, _), (6, _)]) [0, 1, 2, 3, 4, 6] rfl ?_
        (try simp only [if_neg h2, if_pos h4] at K5 ⊢); exact K5
noncomputable def bd_X12_plank_43  (x1 : Int32) (x2 : Int32) (x3 : Int32) (x4 : Int32) (μ : Mm) : (Int32 × Int32 × Int32 × Int32 × Mm) ⊕ (Int32 × Int32 × Int32 × Mm) := (if 10 ≤ x4 then .inr (x1, x2, x3, μ) else (let r3 : Int32 × Int32 × Int32 × Int32 × Int32 := whl (fun s : Int32 × Int32 × Int32 × Int32 × Int32 × Int32 => bd_X12_plank_60  μ s.1 s.2.1 s.2.2.1 s.2.2.2.1 s.2.2.2.2.1 s.2.2.2.2.2) (fun _ : Int32 × Int32 × Int32 × Int32 × Int32 × Int32 => (0, 0, 0, 0, 0)) FU (x1, x2, x3, x4, 0, (if x3 < x2 then x3 else x2)); (let μ5 : Mm := (upI μ 73 (Int32.toNatClampNeg ((10 * (r3.2.2.1)) + (r3.2.2.2.1))) (r3.2.2.2.2)); .inl ((r3.1), (r3.2.1), (r3.2.2.1), ((r3.2.2.2.1) + 1), μ5))))
def sd_X12_plank_43   (x1 : Int32) (x2 : Int32) (x3 : Int32) (x4 : Int32) (μ : Mm) : Prop := (¬ (10 ≤ x4) → (whP (fun s : Int32 × Int32 × Int32 × Int32 × Int32 × Int32 => bd_X12_plank_60  μ s.1 s.2.1 s.2.2.1 s.2.2.2.1 s.2.2.2.2.1 s.2.2.2.2.2) (fun s : Int32 × Int32 × Int32 × Int32 × Int32 × Int32 => sd_X12_plank_60   μ s.1 s.2.1 s.2.2.1 s.2.2.2.1 s.2.2.2.2.1 s.2.2.2.2.2) FU (x1, x2, x3, x4, 0, (if x3 < x2 then x3 else x2))) ∧ (∀ r3 : Int32 × Int32 × Int32 × Int32 × Int32, r3 = whl (fun s : Int32 × Int32 × Int32 × Int32 × Int32 × Int32 => bd_X12_plank_60  μ s.1 s.2.1 s.2.2.1 s.2.2.2.1 s.2.2.2.2.1 s.2.2.2.2.2) (fun _ : Int32 × Int32 × Int32 × Int32 × Int32 × Int32 => (0, 0, 0, 0, 0)) FU (x1, x2, x3, x4, 0, (if x3 < x2 then x3 else x2)) → vp_in ((10 * (r3.2.2.1)) + (r3.2.2.2.1)) 610))
set_option maxRecDepth 20000 in
set_option maxHeartbeats 4000000 in
theorem lw_X12_plank_43 {E : Ex} {G : Gx} {Q : Option Value → Mm → Prop} {x1 : Int32} {x2 : Int32} {x3 : Int32} {x4 : Int32} {μ : Mm}  (p : whP (fun s : Int32 × Int32 × Int32 × Int32 × Mm => bd_X12_plank_43  s.1 s.2.1 s.2.2.1 s.2.2.2.1 s.2.2.2.2) (fun s : Int32 × Int32 × Int32 × Int32 × Mm => sd_X12_plank_43   s.1 s.2.1 s.2.2.1 s.2.2.2.1 s.2.2.2.2) FU (x1, x2, x3, x4, μ)) (k : ∀ r : Int32 × Int32 × Int32 × Mm, r = whl (fun s : Int32 × Int32 × Int32 × Int32 × Mm => bd_X12_plank_43  s.1 s.2.1 s.2.2.1 s.2.2.2.1 s.2.2.2.2) (fun s : Int32 × Int32 × Int32 × Int32 × Mm => (0, 0, 0, s.2.2.2.2)) FU (x1, x2, x3, x4, μ) → J E G 2 mX12_plank Q 125 [(0, rf E 49), (1, .int (r.1)), (2, .int (r.2.1)), (3, .int (r.2.2.1))] [] (r.2.2.2)) : J E G 2 mX12_plank Q 43 [(0, rf E 49), (1, .int x1), (2, .int x2), (3, .int x3), (4, .int x4)] [] μ := by
  refine J_whl (f := (fun s : Int32 × Int32 × Int32 × Int32 × Mm => bd_X12_plank_43  s.1 s.2.1 s.2.2.1 s.2.2.2.1 s.2.2.2.2)) (dd := (fun s : Int32 × Int32 × Int32 × Int32 × Mm => (0, 0, 0, s.2.2.2.2))) (sd := (fun s : Int32 × Int32 × Int32 × Int32 × Mm => sd_X12_plank_43   s.1 s.2.1 s.2.2.1 s.2.2.2.1 s.2.2.2.2)) (P := fun s : Int32 × Int32 × Int32 × Int32 × Mm => J E G 2 mX12_plank Q 43 [(0, rf E 49), (1, .int (s.1)), (2, .int (s.2.1)), (3, .int (s.2.2.1)), (4, .int (s.2.2.2.1))] [] (s.2.2.2.2)) (R := fun r : Int32 × Int32 × Int32 × Mm => J E G 2 mX12_plank Q 125 [(0, rf E 49), (1, .int (r.1)), (2, .int (r.2.1)), (3, .int (r.2.2.1))] [] (r.2.2.2)) ?_ FU (x1, x2, x3, x4, μ) p (k _ rfl)
  clear p k
  rintro ⟨x1, x2, x3, x4, μ⟩ t k1 k2
  dsimp only [sd_X12_plank_43] at t
  have kb : ∀ (y1 : Int32) (y2 : Int32) (y3 : Int32) (y4 : Int32) (μ9 : Mm), bd_X12_plank_43  x1 x2 x3 x4 μ = .inl (y1, y2, y3, y4, μ9) → J E G 2 mX12_plank Q 43 [(0, rf E 49), (1, .int y1), (2, .int y2), (3, .int y3), (4, .int y4)] [] μ9 := fun y1 y2 y3 y4 μ9 h => k1 (y1, y2, y3, y4, μ9) h
  have kx : ∀ (y1 : Int32) (y2 : Int32) (y3 : Int32) (μ9 : Mm), bd_X12_plank_43  x1 x2 x3 x4 μ = .inr (y1, y2, y3, μ9) → J E G 2 mX12_plank Q 125 [(0, rf E 49), (1, .int y1), (2, .int y2), (3, .int y3)] [] μ9 := fun y1 y2 y3 μ9 h => k2 (y1, y2, y3, μ9) h
  clear k1 k2
  refine J_iload (dk okX12_plank 24 rfl) 4 rfl ?_
  refine J_bipush (v := 10) (dk okX12_plank 25 rfl) (by decide) ?_
  refine J_icmp_ge (tgt := 125) (dk okX12_plank 26 rfl) (by decide) (fun h1 => ?_) (fun h1 => ?_)
  · exact J_sub [0, 1, 2, 3] rfl (kx x1 x2 x3 μ (by unfold bd_X12_plank_43; first | (simp only [if_pos h1]; done) | (simp only [if_pos h1]; rfl) | rfl))
  · have t := t h1
    refine J_iconst (v := 0) (dk okX12_plank 27 rfl) (by decide) ?_
    refine J_istore (ls' := [(5, _), (0, _), (1, _), (2, _), (3, _), (4, _)]) (dk okX12_plank 28 rfl) (by decide) rfl ?_
    refine J_iload_n (dk okX12_plank 29 rfl) 3 rfl rfl ?_
    refine J_iload_n (dk okX12_plank 30 rfl) 4 rfl rfl ?_
    refine J_mmin (dk okX12_plank 31 rfl) lkX12_150 mk_min_s mk_Math mk_min_c (by decide) (Nat.le_of_ble_eq_true rfl) ?_
    refine J_istore (ls' := [(6, _), (5, _), (0, _), (1, _), (2, _), (3, _), (4, _)]) (dk okX12_plank 32 rfl) (by decide) rfl ?_
    obtain ⟨s2, t⟩ := t
    refine J_sub (ls' := [(0, _), (1, _), (2, _), (3, _), (4, _), (5, _), (6, _)]) [2, 3, 4, 5, 6, 1, 0] rfl ?_
    refine lw_X12_plank_60  s2 (fun r3 er3 => ?_)
    have t := t r3 er3
    refine J_aload_n (dk okX12_plank 55 rfl) 0 rfl rfl ?_
    refine J_getR (dk okX12_plank 56 rfl) kfX12_95 ds_49 rfl ?_
    refine J_bipush (v := 10) (dk okX12_plank 57 rfl) (by decide) ?_
    refine J_iload_n (dk okX12_plank 58 rfl) 3 rfl rfl ?_
    refine J_imul (dk okX12_plank 59 rfl) ?_
    refine J_iload (dk okX12_plank 60 rfl) 4 rfl ?_
    refine J_iadd (dk okX12_plank 61 rfl) ?_
    refine J_iload (dk okX12_plank 62 rfl) 5 rfl ?_
    have s4 := t
    refine J_iast (dk okX12_plank 63 rfl) ds_73 s4 ?_
    refine J_nm (fun μ5 eμ5 => ?_)
    refine J_iinc (v := ((r3.2.2.2.1) + 1)) (ls' := [(4, _), (0, _), (1, _), (2, _), (3, _), (5, _)]) (dk okX12_plank 64 rfl) 4 rfl rfl (by decide) rfl ?_
    refine J_goto (tgt := 43) (dk okX12_plank 65 rfl) (by decide) ?_
    exact J_sub [1, 2, 3, 4, 0] rfl (kb (r3.1) (r3.2.1) (r3.2.2.1) ((r3.2.2.2.1) + 1) μ5 (by subst eμ5 er3; unfold bd_X12_plank_43; first | (simp only [if_neg h1]; done) | (simp only [if_neg h1]; rfl) | rfl))
noncomputable def bd_X12_plank_35  (x1 : Int32) (x2 : Int32) (x3 : Int32) (μ : Mm) : (Int32 × Int32 × Int32 × Mm) ⊕ (Int32 × Mm) := (if x1 < x3 then .inr (x1, μ) else (let r3 : Int32 × Int32 × Int32 × Mm := whl (fun s : Int32 × Int32 × Int32 × Int32 × Mm => bd_X12_plank_43  s.1 s.2.1 s.2.2.1 s.2.2.2.1 s.2.2.2.2) (fun s : Int32 × Int32 × Int32 × Int32 × Mm => (0, 0, 0, s.2.2.2.2)) FU (x1, x2, x3, 0, μ); .inl ((r3.1), (r3.2.1), ((r3.2.2.1) + 1), (r3.2.2.2))))
def sd_X12_plank_35   (x1 : Int32) (x2 : Int32) (x3 : Int32) (μ : Mm) : Prop := (¬ (x1 < x3) → whP (fun s : Int32 × Int32 × Int32 × Int32 × Mm => bd_X12_plank_43  s.1 s.2.1 s.2.2.1 s.2.2.2.1 s.2.2.2.2) (fun s : Int32 × Int32 × Int32 × Int32 × Mm => sd_X12_plank_43   s.1 s.2.1 s.2.2.1 s.2.2.2.1 s.2.2.2.2) FU (x1, x2, x3, 0, μ))
set_option maxRecDepth 20000 in
set_option maxHeartbeats 4000000 in
theorem lw_X12_plank_35 {E : Ex} {G : Gx} {Q : Option Value → Mm → Prop} {x1 : Int32} {x2 : Int32} {x3 : Int32} {μ : Mm}  (p : whP (fun s : Int32 × Int32 × Int32 × Mm => bd_X12_plank_35  s.1 s.2.1 s.2.2.1 s.2.2.2) (fun s : Int32 × Int32 × Int32 × Mm => sd_X12_plank_35   s.1 s.2.1 s.2.2.1 s.2.2.2) FU (x1, x2, x3, μ)) (k : ∀ r : Int32 × Mm, r = whl (fun s : Int32 × Int32 × Int32 × Mm => bd_X12_plank_35  s.1 s.2.1 s.2.2.1 s.2.2.2) (fun s : Int32 × Int32 × Int32 × Mm => (0, s.2.2.2)) FU (x1, x2, x3, μ) → J E G 2 mX12_plank Q 131 [(0, rf E 49), (1, .int (r.1))] [] (r.2)) : J E G 2 mX12_plank Q 35 [(0, rf E 49), (1, .int x1), (2, .int x2), (3, .int x3)] [] μ := by
  refine J_whl (f := (fun s : Int32 × Int32 × Int32 × Mm => bd_X12_plank_35  s.1 s.2.1 s.2.2.1 s.2.2.2)) (dd := (fun s : Int32 × Int32 × Int32 × Mm => (0, s.2.2.2))) (sd := (fun s : Int32 × Int32 × Int32 × Mm => sd_X12_plank_35   s.1 s.2.1 s.2.2.1 s.2.2.2)) (P := fun s : Int32 × Int32 × Int32 × Mm => J E G 2 mX12_plank Q 35 [(0, rf E 49), (1, .int (s.1)), (2, .int (s.2.1)), (3, .int (s.2.2.1))] [] (s.2.2.2)) (R := fun r : Int32 × Mm => J E G 2 mX12_plank Q 131 [(0, rf E 49), (1, .int (r.1))] [] (r.2)) ?_ FU (x1, x2, x3, μ) p (k _ rfl)
  clear p k
  rintro ⟨x1, x2, x3, μ⟩ t k1 k2
  dsimp only [sd_X12_plank_35] at t
  have kb : ∀ (y1 : Int32) (y2 : Int32) (y3 : Int32) (μ9 : Mm), bd_X12_plank_35  x1 x2 x3 μ = .inl (y1, y2, y3, μ9) → J E G 2 mX12_plank Q 35 [(0, rf E 49), (1, .int y1), (2, .int y2), (3, .int y3)] [] μ9 := fun y1 y2 y3 μ9 h => k1 (y1, y2, y3, μ9) h
  have kx : ∀ (y1 : Int32) (μ9 : Mm), bd_X12_plank_35  x1 x2 x3 μ = .inr (y1, μ9) → J E G 2 mX12_plank Q 131 [(0, rf E 49), (1, .int y1)] [] μ9 := fun y1 μ9 h => k2 (y1, μ9) h
  clear k1 k2
  refine J_iload_n (dk okX12_plank 19 rfl) 3 rfl rfl ?_
  refine J_iload_n (dk okX12_plank 20 rfl) 1 rfl rfl ?_
  refine J_icmp_gt (tgt := 131) (dk okX12_plank 21 rfl) (by decide) (fun h1 => ?_) (fun h1 => ?_)
  · exact J_sub [0, 1] rfl (kx x1 μ (by unfold bd_X12_plank_35; first | (simp only [if_pos h1]; done) | (simp only [if_pos h1]; rfl) | rfl))
  · have t := t h1
    refine J_iconst (v := 0) (dk okX12_plank 22 rfl) (by decide) ?_
    refine J_istore (ls' := [(4, _), (0, _), (1, _), (2, _), (3, _)]) (dk okX12_plank 23 rfl) (by decide) rfl ?_
    have s2 := t
    refine J_sub (ls' := [(0, _), (1, _), (2, _), (3, _), (4, _)]) [1, 2, 3, 4, 0] rfl ?_
    refine lw_X12_plank_43  s2 (fun r3 er3 => ?_)
    refine J_iinc (v := ((r3.2.2.1) + 1)) (ls' := [(3, _), (0, _), (1, _), (2, _)]) (dk okX12_plank 66 rfl) 3 rfl rfl (by decide) rfl ?_
    refine J_goto (tgt := 35) (dk okX12_plank 67 rfl) (by decide) ?_
    exact J_sub [1, 2, 3, 0] rfl (kb (r3.1) (r3.2.1) ((r3.2.2.1) + 1) (r3.2.2.2) (by subst er3; unfold bd_X12_plank_35; first | (simp only [if_neg h1]; done) | (simp only [if_neg h1]; rfl) | rfl))
/-- VotingFloorModel.plank(II)I -/
noncomputable def v_X12_plank (p0 : Int32) (p1 : Int32) (μ : Mm) : Int32 := (let μ1 : Mm := (upI μ 49 0 0); (if (v_X12_in (Int32.toInt64 p0) 0 60) = 0 then (-1) else (if (v_X12_in (Int32.toInt64 p1) 2 9) = 0 then (-1) else (let r5 : Int32 × Mm := whl (fun s : Int32 × Int32 × Int32 × Mm => bd_X12_plank_35  s.1 s.2.1 s.2.2.1 s.2.2.2) (fun s : Int32 × Int32 × Int32 × Mm => (0, s.2.2.2)) FU (p0, p1, 0, μ1); ((r5.2).1 73 (Int32.toNatClampNeg (10 * (r5.1))))))))
noncomputable def e_X12_plank (p0 : Int32) (p1 : Int32) (μ : Mm) : Mm := (let μ1 : Mm := (upI μ 49 0 0); (if (v_X12_in (Int32.toInt64 p0) 0 60) = 0 then μ1 else (if (v_X12_in (Int32.toInt64 p1) 2 9) = 0 then μ1 else (let r5 : Int32 × Mm := whl (fun s : Int32 × Int32 × Int32 × Mm => bd_X12_plank_35  s.1 s.2.1 s.2.2.1 s.2.2.2) (fun s : Int32 × Int32 × Int32 × Mm => (0, s.2.2.2)) FU (p0, p1, 0, μ1); (r5.2)))))
def p_X12_plank (p0 : Int32) (p1 : Int32)  (μ : Mm) : Prop := (∀ μ1 : Mm, μ1 = (upI μ 49 0 0) → (¬ ((v_X12_in (Int32.toInt64 p0) 0 60) = 0) → (¬ ((v_X12_in (Int32.toInt64 p1) 2 9) = 0) → (whP (fun s : Int32 × Int32 × Int32 × Mm => bd_X12_plank_35  s.1 s.2.1 s.2.2.1 s.2.2.2) (fun s : Int32 × Int32 × Int32 × Mm => sd_X12_plank_35   s.1 s.2.1 s.2.2.1 s.2.2.2) FU (p0, p1, 0, μ1)) ∧ (∀ r5 : Int32 × Mm, r5 = whl (fun s : Int32 × Int32 × Int32 × Mm => bd_X12_plank_35  s.1 s.2.1 s.2.2.1 s.2.2.2) (fun s : Int32 × Int32 × Int32 × Mm => (0, s.2.2.2)) FU (p0, p1, 0, μ1) → vp_in (10 * (r5.1)) 610))))
set_option maxRecDepth 20000 in
set_option maxHeartbeats 4000000 in
theorem con_X12_plank {E : Ex} {Q : Option Value → Mm → Prop} {p0 : Int32} {p1 : Int32} {μ : Mm} (t : p_X12_plank p0 p1  μ) (k : Q (some (.int (v_X12_plank p0 p1 μ))) (e_X12_plank p0 p1 μ)) : Con E 2 mX12_plank [rf E 49, .int p0, .int p1] μ Q := by
  refine Con_J (by decide +kernel) (Nat.le_of_ble_eq_true rfl) (fun G => ?_)
  unfold v_X12_plank e_X12_plank at k
  unfold p_X12_plank at t
  refine J_sub (ls' := [(0, rf E 49), (1, .int p0), (2, .int p1)]) [0, 1, 2] rfl ?_
  refine J_aload_n (dk okX12_plank 0 rfl) 0 rfl rfl ?_
  refine J_iconst (v := 0) (dk okX12_plank 1 rfl) (by decide) ?_
  refine J_put (dk okX12_plank 2 rfl) kpX12_3 ds_49 rfl rfl rfl ?_
  refine J_nm (fun μ1 eμ1 => ?_)
  have t := t μ1 eμ1
  refine J_iload_n (dk okX12_plank 3 rfl) 1 rfl rfl ?_
  refine J_i2l (dk okX12_plank 4 rfl) ?_
  refine J_lconst (v := 0) (dk okX12_plank 5 rfl) (by decide) ?_
  refine J_ldc2 (v := 60) (dk okX12_plank 6 rfl) kcX12_304 ?_
  refine J_callSi (As := [.long (Int32.toInt64 p0), .long 0, .long 60]) (dk okX12_plank 7 rfl) skX12_in lkX12_114 rfl rfl (Nat.le_of_ble_eq_true rfl) (by decide) (con_X12_in  ⟨_, rfl, ?_⟩)
  refine J_if_eq (tgt := 31) (dk okX12_plank 8 rfl) (by decide) (fun h2 => ?_) (fun h2 => ?_)
  · refine J_iconst (v := (-1)) (dk okX12_plank 15 rfl) (by decide) ?_
    subst eμ1
    (try simp only [if_pos h2] at k ⊢)
    exact J_iret (dk okX12_plank 16 rfl) rfl k
  · have t := t h2
    refine J_iload_n (dk okX12_plank 9 rfl) 2 rfl rfl ?_
    refine J_i2l (dk okX12_plank 10 rfl) ?_
    refine J_ldc2 (v := 2) (dk okX12_plank 11 rfl) kcX12_430 ?_
    refine J_ldc2 (v := 9) (dk okX12_plank 12 rfl) kcX12_265 ?_
    refine J_callSi (As := [.long (Int32.toInt64 p1), .long 2, .long 9]) (dk okX12_plank 13 rfl) skX12_in lkX12_114 rfl rfl (Nat.le_of_ble_eq_true rfl) (by decide) (con_X12_in  ⟨_, rfl, ?_⟩)
    refine J_if_ne (tgt := 33) (dk okX12_plank 14 rfl) (by decide) (fun h3 => ?_) (fun h3 => ?_)
    · have t := t h3
      refine J_iconst (v := 0) (dk okX12_plank 17 rfl) (by decide) ?_
      refine J_istore_n (ls' := [(3, _), (0, _), (1, _), (2, _)]) (dk okX12_plank 18 rfl) rfl (by decide) rfl ?_
      obtain ⟨s4, t⟩ := t
      refine J_sub (ls' := [(0, _), (1, _), (2, _), (3, _)]) [1, 2, 3, 0] rfl ?_
      refine lw_X12_plank_35  s4 (fun r5 er5 => ?_)
      have t := t r5 er5
      refine J_aload_n (dk okX12_plank 68 rfl) 0 rfl rfl ?_
      refine J_getR (dk okX12_plank 69 rfl) kfX12_95 ds_49 rfl ?_
      refine J_bipush (v := 10) (dk okX12_plank 70 rfl) (by decide) ?_
      refine J_iload_n (dk okX12_plank 71 rfl) 1 rfl rfl ?_
      refine J_imul (dk okX12_plank 72 rfl) ?_
      have s6 := t
      refine J_iald (dk okX12_plank 73 rfl) ds_73 s6 ?_
      subst er5 eμ1
      (try simp only [if_neg h2, if_neg h3] at k ⊢)
      exact J_iret (dk okX12_plank 74 rfl) rfl k
    · refine J_iconst (v := (-1)) (dk okX12_plank 15 rfl) (by decide) ?_
      subst eμ1
      (try simp only [if_neg h2, if_pos h3] at k ⊢)
      exact J_iret (dk okX12_plank 16 rfl) rfl k
noncomputable def bd_X12_sheet_46  (x1 : Int32) (x2 : Int32) (x4 : Int32) (x5 : Int32) (x6 : Int32) (x7 : Int32) (μ : Mm) : (Int32 × Int32 × Int32 × Int32 × Int32 × Int32 × Mm) ⊕ (Int32 × Int32 × Mm) := (if (μ.1 49 3) ≤ x7 then .inr (x1, x5, μ) else (let μ9 : Mm := (upI μ 51 (Int32.toNatClampNeg x7) (if x1 = 3 then 1 else (if x7 < x2 then (if 1 < (if (if x1 = 0 then (Int32.toInt8 x6).toInt32 else (if x1 = 1 then (Int32.toInt16 x6).toInt32 else x6 : Int32) : Int32) < 9 then (if x1 = 0 then (Int32.toInt8 x6).toInt32 else (if x1 = 1 then (Int32.toInt16 x6).toInt32 else x6 : Int32) : Int32) else 9) then (if (if x1 = 0 then (Int32.toInt8 x6).toInt32 else (if x1 = 1 then (Int32.toInt16 x6).toInt32 else x6 : Int32) : Int32) < 9 then (if x1 = 0 then (Int32.toInt8 x6).toInt32 else (if x1 = 1 then (Int32.toInt16 x6).toInt32 else x6 : Int32) : Int32) else 9) else 1) else 1 : Int32) : Int32)); .inl (x1, x2, x4, (x5 + (μ9.1 51 (Int32.toNatClampNeg x7))), (x6 + x4), (x7 + 1), μ9)))
def sd_X12_sheet_46   (x1 : Int32) (x2 : Int32) (x4 : Int32) (x5 : Int32) (x6 : Int32) (x7 : Int32) (μ : Mm) : Prop := (¬ ((μ.1 49 3) ≤ x7) → (vp_in x7 7) ∧ (∀ μ9 : Mm, μ9 = (upI μ 51 (Int32.toNatClampNeg x7) (if x1 = 3 then 1 else (if x7 < x2 then (if 1 < (if (if x1 = 0 then (Int32.toInt8 x6).toInt32 else (if x1 = 1 then (Int32.toInt16 x6).toInt32 else x6 : Int32) : Int32) < 9 then (if x1 = 0 then (Int32.toInt8 x6).toInt32 else (if x1 = 1 then (Int32.toInt16 x6).toInt32 else x6 : Int32) : Int32) else 9) then (if (if x1 = 0 then (Int32.toInt8 x6).toInt32 else (if x1 = 1 then (Int32.toInt16 x6).toInt32 else x6 : Int32) : Int32) < 9 then (if x1 = 0 then (Int32.toInt8 x6).toInt32 else (if x1 = 1 then (Int32.toInt16 x6).toInt32 else x6 : Int32) : Int32) else 9) else 1) else 1 : Int32) : Int32)) → vp_in x7 7))
set_option maxRecDepth 20000 in
set_option maxHeartbeats 4000000 in
theorem lw_X12_sheet_46 {E : Ex} {G : Gx} {Q : Option Value → Mm → Prop} {x1 : Int32} {x2 : Int32} {x4 : Int32} {x5 : Int32} {x6 : Int32} {x7 : Int32} {μ : Mm}  (p : whP (fun s : Int32 × Int32 × Int32 × Int32 × Int32 × Int32 × Mm => bd_X12_sheet_46  s.1 s.2.1 s.2.2.1 s.2.2.2.1 s.2.2.2.2.1 s.2.2.2.2.2.1 s.2.2.2.2.2.2) (fun s : Int32 × Int32 × Int32 × Int32 × Int32 × Int32 × Mm => sd_X12_sheet_46   s.1 s.2.1 s.2.2.1 s.2.2.2.1 s.2.2.2.2.1 s.2.2.2.2.2.1 s.2.2.2.2.2.2) FU (x1, x2, x4, x5, x6, x7, μ)) (k : ∀ r : Int32 × Int32 × Mm, r = whl (fun s : Int32 × Int32 × Int32 × Int32 × Int32 × Int32 × Mm => bd_X12_sheet_46  s.1 s.2.1 s.2.2.1 s.2.2.2.1 s.2.2.2.2.1 s.2.2.2.2.2.1 s.2.2.2.2.2.2) (fun s : Int32 × Int32 × Int32 × Int32 × Int32 × Int32 × Mm => (0, 0, s.2.2.2.2.2.2)) FU (x1, x2, x4, x5, x6, x7, μ) → J E G 2 mX12_sheet Q 138 [(1, .int (r.1)), (5, .int (r.2.1))] [] (r.2.2)) : J E G 2 mX12_sheet Q 46 [(0, rf E 49), (1, .int x1), (2, .int x2), (4, .int x4), (5, .int x5), (6, .int x6), (7, .int x7)] [] μ := by
  refine J_whl (f := (fun s : Int32 × Int32 × Int32 × Int32 × Int32 × Int32 × Mm => bd_X12_sheet_46  s.1 s.2.1 s.2.2.1 s.2.2.2.1 s.2.2.2.2.1 s.2.2.2.2.2.1 s.2.2.2.2.2.2)) (dd := (fun s : Int32 × Int32 × Int32 × Int32 × Int32 × Int32 × Mm => (0, 0, s.2.2.2.2.2.2))) (sd := (fun s : Int32 × Int32 × Int32 × Int32 × Int32 × Int32 × Mm => sd_X12_sheet_46   s.1 s.2.1 s.2.2.1 s.2.2.2.1 s.2.2.2.2.1 s.2.2.2.2.2.1 s.2.2.2.2.2.2)) (P := fun s : Int32 × Int32 × Int32 × Int32 × Int32 × Int32 × Mm => J E G 2 mX12_sheet Q 46 [(0, rf E 49), (1, .int (s.1)), (2, .int (s.2.1)), (4, .int (s.2.2.1)), (5, .int (s.2.2.2.1)), (6, .int (s.2.2.2.2.1)), (7, .int (s.2.2.2.2.2.1))] [] (s.2.2.2.2.2.2)) (R := fun r : Int32 × Int32 × Mm => J E G 2 mX12_sheet Q 138 [(1, .int (r.1)), (5, .int (r.2.1))] [] (r.2.2)) ?_ FU (x1, x2, x4, x5, x6, x7, μ) p (k _ rfl)
  clear p k
  rintro ⟨x1, x2, x4, x5, x6, x7, μ⟩ t k1 k2
  dsimp only [sd_X12_sheet_46] at t
  have kb : ∀ (y1 : Int32) (y2 : Int32) (y4 : Int32) (y5 : Int32) (y6 : Int32) (y7 : Int32) (μ9 : Mm), bd_X12_sheet_46  x1 x2 x4 x5 x6 x7 μ = .inl (y1, y2, y4, y5, y6, y7, μ9) → J E G 2 mX12_sheet Q 46 [(0, rf E 49), (1, .int y1), (2, .int y2), (4, .int y4), (5, .int y5), (6, .int y6), (7, .int y7)] [] μ9 := fun y1 y2 y4 y5 y6 y7 μ9 h => k1 (y1, y2, y4, y5, y6, y7, μ9) h
  have kx : ∀ (y1 : Int32) (y5 : Int32) (μ9 : Mm), bd_X12_sheet_46  x1 x2 x4 x5 x6 x7 μ = .inr (y1, y5, μ9) → J E G 2 mX12_sheet Q 138 [(1, .int y1), (5, .int y5)] [] μ9 := fun y1 y5 μ9 h => k2 (y1, y5, μ9) h
  clear k1 k2
  refine J_iload (dk okX12_sheet 27 rfl) 6 rfl ?_
  refine J_aload_n (dk okX12_sheet 28 rfl) 0 rfl rfl ?_
  refine J_getI (dk okX12_sheet 29 rfl) kfX12_111 ds_49 rfl ?_
  refine J_icmp_ge (tgt := 138) (dk okX12_sheet 30 rfl) (by decide) (fun h1 => ?_) (fun h1 => ?_)
  · exact J_sub [1, 4] rfl (kx x1 x5 μ (by unfold bd_X12_sheet_46; first | (simp only [if_pos h1]; done) | (simp only [if_pos h1]; rfl) | rfl))
  · have t := t h1
    refine J_iload_n (dk okX12_sheet 31 rfl) 1 rfl rfl ?_
    have K4 : J E G 2 mX12_sheet Q 78 [(0, rf E 49), (1, .int x1), (2, .int x2), (4, .int x4), (5, .int x5), (6, .int x6), (7, .int x7)] [.int (if x1 = 0 then (Int32.toInt8 x6).toInt32 else (if x1 = 1 then (Int32.toInt16 x6).toInt32 else x6 : Int32) : Int32)] μ := by
      refine J_istore (ls' := [(8, _), (0, _), (1, _), (2, _), (4, _), (5, _), (6, _), (7, _)]) (dk okX12_sheet 43 rfl) (by decide) rfl ?_
      refine J_aload_n (dk okX12_sheet 44 rfl) 1 rfl rfl ?_
      refine J_getR (dk okX12_sheet 45 rfl) kfX12_28 ds_49 rfl ?_
      refine J_iload (dk okX12_sheet 46 rfl) 7 rfl ?_
      refine J_iload_n (dk okX12_sheet 47 rfl) 2 rfl rfl ?_
      refine J_iconst (v := 3) (dk okX12_sheet 48 rfl) (by decide) ?_
      have K7 : J E G 2 mX12_sheet Q 112 [(0, rf E 49), (1, .int x1), (2, .int x2), (4, .int x4), (5, .int x5), (6, .int x6), (7, .int x7)] [.int (if x1 = 3 then 1 else (if x7 < x2 then (if 1 < (if (if x1 = 0 then (Int32.toInt8 x6).toInt32 else (if x1 = 1 then (Int32.toInt16 x6).toInt32 else x6 : Int32) : Int32) < 9 then (if x1 = 0 then (Int32.toInt8 x6).toInt32 else (if x1 = 1 then (Int32.toInt16 x6).toInt32 else x6 : Int32) : Int32) else 9) then (if (if x1 = 0 then (Int32.toInt8 x6).toInt32 else (if x1 = 1 then (Int32.toInt16 x6).toInt32 else x6 : Int32) : Int32) < 9 then (if x1 = 0 then (Int32.toInt8 x6).toInt32 else (if x1 = 1 then (Int32.toInt16 x6).toInt32 else x6 : Int32) : Int32) else 9) else 1) else 1 : Int32) : Int32), .int x7, rf E 51] μ := by
        obtain ⟨s8, t⟩ := t
        refine J_iast (dk okX12_sheet 60 rfl) ds_51 s8 ?_
        refine J_nm (fun μ9 eμ9 => ?_)
        have t := t μ9 eμ9
        refine J_iload (dk okX12_sheet 61 rfl) 4 rfl ?_
        refine J_aload_n (dk okX12_sheet 62 rfl) 0 rfl rfl ?_
        refine J_getR (dk okX12_sheet 63 rfl) kfX12_28 ds_49 rfl ?_
        refine J_iload (dk okX12_sheet 64 rfl) 6 rfl ?_
        have s10 := t
        refine J_iald (dk okX12_sheet 65 rfl) ds_51 s10 ?_
        refine J_iadd (dk okX12_sheet 66 rfl) ?_
        refine J_istore (ls' := [(5, _), (0, _), (1, _), (2, _), (4, _), (6, _), (7, _)]) (dk okX12_sheet 67 rfl) (by decide) rfl ?_
        refine J_iload (dk okX12_sheet 68 rfl) 5 rfl ?_
        refine J_iload (dk okX12_sheet 69 rfl) 4 rfl ?_
        refine J_iadd (dk okX12_sheet 70 rfl) ?_
        refine J_istore (ls' := [(6, _), (5, _), (0, _), (1, _), (2, _), (4, _), (7, _)]) (dk okX12_sheet 71 rfl) (by decide) rfl ?_
        refine J_iinc (v := (x7 + 1)) (ls' := [(7, _), (6, _), (5, _), (0, _), (1, _), (2, _), (4, _)]) (dk okX12_sheet 72 rfl) 6 rfl rfl (by decide) rfl ?_
        refine J_goto (tgt := 46) (dk okX12_sheet 73 rfl) (by decide) ?_
        exact J_sub [3, 4, 5, 6, 2, 1, 0] rfl (kb x1 x2 x4 (x5 + (μ9.1 51 (Int32.toNatClampNeg x7))) (x6 + x4) (x7 + 1) μ9 (by subst eμ9; unfold bd_X12_sheet_46; first | (simp only [if_neg h1]; done) | (simp only [if_neg h1]; rfl) | rfl))
      refine J_icmp_eq (tgt := 97) (dk okX12_sheet 49 rfl) (by decide) (fun h5 => ?_) (fun h5 => ?_)
      · refine J_iconst (v := 1) (dk okX12_sheet 53 rfl) (by decide) ?_
        refine J_goto (tgt := 112) (dk okX12_sheet 54 rfl) (by decide) ?_
        refine J_sub (ls' := [(0, _), (1, _), (2, _), (4, _), (5, _), (6, _), (7, _)]) [1, 2, 3, 4, 5, 6, 7] rfl ?_
        (try simp only [if_pos h5] at K7 ⊢); exact K7
      · refine J_iload (dk okX12_sheet 50 rfl) 7 rfl ?_
        refine J_iload_n (dk okX12_sheet 51 rfl) 3 rfl rfl ?_
        refine J_icmp_lt (tgt := 101) (dk okX12_sheet 52 rfl) (by decide) (fun h6 => ?_) (fun h6 => ?_)
        · refine J_iconst (v := 1) (dk okX12_sheet 55 rfl) (by decide) ?_
          refine J_bipush (v := 9) (dk okX12_sheet 56 rfl) (by decide) ?_
          refine J_iload (dk okX12_sheet 57 rfl) 0 rfl ?_
          refine J_mmin (dk okX12_sheet 58 rfl) lkX12_150 mk_min_s mk_Math mk_min_c (by decide) (Nat.le_of_ble_eq_true rfl) ?_
          refine J_mmax (dk okX12_sheet 59 rfl) lkX12_284 mk_max_s mk_Math mk_max_c (by decide) (Nat.le_of_ble_eq_true rfl) ?_
          refine J_sub (ls' := [(0, _), (1, _), (2, _), (4, _), (5, _), (6, _), (7, _)]) [1, 2, 3, 4, 5, 6, 7] rfl ?_
          (try simp only [if_neg h5, if_pos h6] at K7 ⊢); exact K7
        · refine J_iconst (v := 1) (dk okX12_sheet 53 rfl) (by decide) ?_
          refine J_goto (tgt := 112) (dk okX12_sheet 54 rfl) (by decide) ?_
          refine J_sub (ls' := [(0, _), (1, _), (2, _), (4, _), (5, _), (6, _), (7, _)]) [1, 2, 3, 4, 5, 6, 7] rfl ?_
          (try simp only [if_neg h5, if_neg h6] at K7 ⊢); exact K7
    refine J_if_ne (tgt := 65) (dk okX12_sheet 32 rfl) (by decide) (fun h2 => ?_) (fun h2 => ?_)
    · refine J_iload_n (dk okX12_sheet 36 rfl) 1 rfl rfl ?_
      refine J_iconst (v := 1) (dk okX12_sheet 37 rfl) (by decide) ?_
      refine J_icmp_ne (tgt := 76) (dk okX12_sheet 38 rfl) (by decide) (fun h3 => ?_) (fun h3 => ?_)
      · refine J_iload (dk okX12_sheet 42 rfl) 5 rfl ?_
        refine J_sub (ls' := [(0, _), (1, _), (2, _), (4, _), (5, _), (6, _), (7, _)]) [0, 1, 2, 3, 4, 5, 6] rfl ?_
        (try simp only [if_neg h2, if_neg h3] at K4 ⊢); exact K4
      · refine J_iload (dk okX12_sheet 39 rfl) 5 rfl ?_
        refine J_i2s (dk okX12_sheet 40 rfl) ?_
        refine J_goto (tgt := 78) (dk okX12_sheet 41 rfl) (by decide) ?_
        refine J_sub (ls' := [(0, _), (1, _), (2, _), (4, _), (5, _), (6, _), (7, _)]) [0, 1, 2, 3, 4, 5, 6] rfl ?_
        (try simp only [if_neg h2, if_pos h3] at K4 ⊢); exact K4
    · refine J_iload (dk okX12_sheet 33 rfl) 5 rfl ?_
      refine J_i2b (dk okX12_sheet 34 rfl) ?_
      refine J_goto (tgt := 78) (dk okX12_sheet 35 rfl) (by decide) ?_
      refine J_sub (ls' := [(0, _), (1, _), (2, _), (4, _), (5, _), (6, _), (7, _)]) [0, 1, 2, 3, 4, 5, 6] rfl ?_
      (try simp only [if_pos h2] at K4 ⊢); exact K4
/-- VotingFloorModel.sheet(IIII)I -/
noncomputable def v_X12_sheet (p0 : Int32) (p1 : Int32) (p2 : Int32) (p3 : Int32) (μ : Mm) : Int32 := (let μ1 : Mm := (upI μ 49 0 0); (if (v_X12_in (Int32.toInt64 p0) 0 3) = 0 then (-1) else (if p1 ≤ 7 then (if p0 = 3 then (let r6 : Int32 × Int32 × Mm := whl (fun s : Int32 × Int32 × Int32 × Int32 × Int32 × Int32 × Mm => bd_X12_sheet_46  s.1 s.2.1 s.2.2.1 s.2.2.2.1 s.2.2.2.2.1 s.2.2.2.2.2.1 s.2.2.2.2.2.2) (fun s : Int32 × Int32 × Int32 × Int32 × Int32 × Int32 × Mm => (0, 0, s.2.2.2.2.2.2)) FU (p0, p1, p3, 0, p2, 0, μ1); (if (r6.1) = 3 then (-3) else (r6.2.1) : Int32)) else (if 0 ≤ p1 then (let r11 : Int32 × Int32 × Mm := whl (fun s : Int32 × Int32 × Int32 × Int32 × Int32 × Int32 × Mm => bd_X12_sheet_46  s.1 s.2.1 s.2.2.1 s.2.2.2.1 s.2.2.2.2.1 s.2.2.2.2.2.1 s.2.2.2.2.2.2) (fun s : Int32 × Int32 × Int32 × Int32 × Int32 × Int32 × Mm => (0, 0, s.2.2.2.2.2.2)) FU (p0, p1, p3, 0, p2, 0, μ1); (if (r11.1) = 3 then (-3) else (r11.2.1) : Int32)) else (-2))) else (-1))))
noncomputable def e_X12_sheet (p0 : Int32) (p1 : Int32) (p2 : Int32) (p3 : Int32) (μ : Mm) : Mm := (let μ1 : Mm := (upI μ 49 0 0); (if (v_X12_in (Int32.toInt64 p0) 0 3) = 0 then μ1 else (if p1 ≤ 7 then (if p0 = 3 then (let r6 : Int32 × Int32 × Mm := whl (fun s : Int32 × Int32 × Int32 × Int32 × Int32 × Int32 × Mm => bd_X12_sheet_46  s.1 s.2.1 s.2.2.1 s.2.2.2.1 s.2.2.2.2.1 s.2.2.2.2.2.1 s.2.2.2.2.2.2) (fun s : Int32 × Int32 × Int32 × Int32 × Int32 × Int32 × Mm => (0, 0, s.2.2.2.2.2.2)) FU (p0, p1, p3, 0, p2, 0, μ1); (r6.2.2)) else (if 0 ≤ p1 then (let r11 : Int32 × Int32 × Mm := whl (fun s : Int32 × Int32 × Int32 × Int32 × Int32 × Int32 × Mm => bd_X12_sheet_46  s.1 s.2.1 s.2.2.1 s.2.2.2.1 s.2.2.2.2.1 s.2.2.2.2.2.1 s.2.2.2.2.2.2) (fun s : Int32 × Int32 × Int32 × Int32 × Int32 × Int32 × Mm => (0, 0, s.2.2.2.2.2.2)) FU (p0, p1, p3, 0, p2, 0, μ1); (r11.2.2)) else μ1)) else μ1)))
def p_X12_sheet (p0 : Int32) (p1 : Int32) (p2 : Int32) (p3 : Int32)  (μ : Mm) : Prop := (∀ μ1 : Mm, μ1 = (upI μ 49 0 0) → (¬ ((v_X12_in (Int32.toInt64 p0) 0 3) = 0) → (p1 ≤ 7 → ((p0 = 3 → whP (fun s : Int32 × Int32 × Int32 × Int32 × Int32 × Int32 × Mm => bd_X12_sheet_46  s.1 s.2.1 s.2.2.1 s.2.2.2.1 s.2.2.2.2.1 s.2.2.2.2.2.1 s.2.2.2.2.2.2) (fun s : Int32 × Int32 × Int32 × Int32 × Int32 × Int32 × Mm => sd_X12_sheet_46   s.1 s.2.1 s.2.2.1 s.2.2.2.1 s.2.2.2.2.1 s.2.2.2.2.2.1 s.2.2.2.2.2.2) FU (p0, p1, p3, 0, p2, 0, μ1)) ∧ (¬ (p0 = 3) → (0 ≤ p1 → whP (fun s : Int32 × Int32 × Int32 × Int32 × Int32 × Int32 × Mm => bd_X12_sheet_46  s.1 s.2.1 s.2.2.1 s.2.2.2.1 s.2.2.2.2.1 s.2.2.2.2.2.1 s.2.2.2.2.2.2) (fun s : Int32 × Int32 × Int32 × Int32 × Int32 × Int32 × Mm => sd_X12_sheet_46   s.1 s.2.1 s.2.2.1 s.2.2.2.1 s.2.2.2.2.1 s.2.2.2.2.2.1 s.2.2.2.2.2.2) FU (p0, p1, p3, 0, p2, 0, μ1)))))))
set_option maxRecDepth 20000 in
set_option maxHeartbeats 4000000 in
theorem con_X12_sheet {E : Ex} {Q : Option Value → Mm → Prop} {p0 : Int32} {p1 : Int32} {p2 : Int32} {p3 : Int32} {μ : Mm} (t : p_X12_sheet p0 p1 p2 p3  μ) (k : Q (some (.int (v_X12_sheet p0 p1 p2 p3 μ))) (e_X12_sheet p0 p1 p2 p3 μ)) : Con E 2 mX12_sheet [rf E 49, .int p0, .int p1, .int p2, .int p3] μ Q := by
  refine Con_J (by decide +kernel) (Nat.le_of_ble_eq_true rfl) (fun G => ?_)
  unfold v_X12_sheet e_X12_sheet at k
  unfold p_X12_sheet at t
  refine J_sub (ls' := [(0, rf E 49), (1, .int p0), (2, .int p1), (3, .int p2), (4, .int p3)]) [0, 1, 2, 3, 4] rfl ?_
  refine J_aload_n (dk okX12_sheet 0 rfl) 0 rfl rfl ?_
  refine J_iconst (v := 0) (dk okX12_sheet 1 rfl) (by decide) ?_
  refine J_put (dk okX12_sheet 2 rfl) kpX12_3 ds_49 rfl rfl rfl ?_
  refine J_nm (fun μ1 eμ1 => ?_)
  have t := t μ1 eμ1
  refine J_iload_n (dk okX12_sheet 3 rfl) 1 rfl rfl ?_
  refine J_i2l (dk okX12_sheet 4 rfl) ?_
  refine J_lconst (v := 0) (dk okX12_sheet 5 rfl) (by decide) ?_
  refine J_ldc2 (v := 3) (dk okX12_sheet 6 rfl) kcX12_282 ?_
  refine J_callSi (As := [.long (Int32.toInt64 p0), .long 0, .long 3]) (dk okX12_sheet 7 rfl) skX12_in lkX12_114 rfl rfl (Nat.le_of_ble_eq_true rfl) (by decide) (con_X12_in  ⟨_, rfl, ?_⟩)
  refine J_if_eq (tgt := 23) (dk okX12_sheet 8 rfl) (by decide) (fun h2 => ?_) (fun h2 => ?_)
  · refine J_iconst (v := (-1)) (dk okX12_sheet 12 rfl) (by decide) ?_
    subst eμ1
    (try simp only [if_pos h2] at k ⊢)
    exact J_iret (dk okX12_sheet 13 rfl) rfl k
  · have t := t h2
    refine J_iload_n (dk okX12_sheet 9 rfl) 2 rfl rfl ?_
    refine J_bipush (v := 7) (dk okX12_sheet 10 rfl) (by decide) ?_
    refine J_icmp_le (tgt := 25) (dk okX12_sheet 11 rfl) (by decide) (fun h3 => ?_) (fun h3 => ?_)
    · have t := t h3
      refine J_iload_n (dk okX12_sheet 14 rfl) 1 rfl rfl ?_
      refine J_iconst (v := 3) (dk okX12_sheet 15 rfl) (by decide) ?_
      refine J_icmp_eq (tgt := 37) (dk okX12_sheet 16 rfl) (by decide) (fun h4 => ?_) (fun h4 => ?_)
      · have t := t.1 h4
        refine J_iconst (v := 0) (dk okX12_sheet 21 rfl) (by decide) ?_
        refine J_istore (ls' := [(5, _), (0, _), (1, _), (2, _), (3, _), (4, _)]) (dk okX12_sheet 22 rfl) (by decide) rfl ?_
        refine J_iload_n (dk okX12_sheet 23 rfl) 4 rfl rfl ?_
        refine J_istore (ls' := [(6, _), (5, _), (0, _), (1, _), (2, _), (3, _), (4, _)]) (dk okX12_sheet 24 rfl) (by decide) rfl ?_
        refine J_iconst (v := 0) (dk okX12_sheet 25 rfl) (by decide) ?_
        refine J_istore (ls' := [(7, _), (6, _), (5, _), (0, _), (1, _), (2, _), (3, _), (4, _)]) (dk okX12_sheet 26 rfl) (by decide) rfl ?_
        have s5 := t
        refine J_sub (ls' := [(0, _), (1, _), (2, _), (4, _), (5, _), (6, _), (7, _)]) [3, 4, 5, 7, 2, 1, 0] rfl ?_
        refine lw_X12_sheet_46  s5 (fun r6 er6 => ?_)
        refine J_iload_n (dk okX12_sheet 74 rfl) 0 rfl rfl ?_
        refine J_iconst (v := 3) (dk okX12_sheet 75 rfl) (by decide) ?_
        have K8 : J E G 2 mX12_sheet Q 150 [] [.int (if (r6.1) = 3 then (-3) else (r6.2.1) : Int32)] (r6.2.2) := by
          subst er6 eμ1
          (try simp only [if_neg h2, if_pos h3, if_pos h4] at k ⊢)
          exact J_iret (dk okX12_sheet 80 rfl) rfl k
        refine J_icmp_ne (tgt := 148) (dk okX12_sheet 76 rfl) (by decide) (fun h7 => ?_) (fun h7 => ?_)
        · refine J_iload (dk okX12_sheet 79 rfl) 1 rfl ?_
          refine J_sub (ls' := []) [] rfl ?_
          (try simp only [if_neg h7] at K8 ⊢); exact K8
        · refine J_bipush (v := (-3)) (dk okX12_sheet 77 rfl) (by decide) ?_
          refine J_goto (tgt := 150) (dk okX12_sheet 78 rfl) (by decide) ?_
          refine J_sub (ls' := []) [] rfl ?_
          (try simp only [if_pos h7] at K8 ⊢); exact K8
      · have t := t.2 h4
        refine J_iload_n (dk okX12_sheet 17 rfl) 2 rfl rfl ?_
        refine J_if_ge (tgt := 37) (dk okX12_sheet 18 rfl) (by decide) (fun h9 => ?_) (fun h9 => ?_)
        · have t := t h9
          refine J_iconst (v := 0) (dk okX12_sheet 21 rfl) (by decide) ?_
          refine J_istore (ls' := [(5, _), (0, _), (1, _), (2, _), (3, _), (4, _)]) (dk okX12_sheet 22 rfl) (by decide) rfl ?_
          refine J_iload_n (dk okX12_sheet 23 rfl) 4 rfl rfl ?_
          refine J_istore (ls' := [(6, _), (5, _), (0, _), (1, _), (2, _), (3, _), (4, _)]) (dk okX12_sheet 24 rfl) (by decide) rfl ?_
          refine J_iconst (v := 0) (dk okX12_sheet 25 rfl) (by decide) ?_
          refine J_istore (ls' := [(7, _), (6, _), (5, _), (0, _), (1, _), (2, _), (3, _), (4, _)]) (dk okX12_sheet 26 rfl) (by decide) rfl ?_
          have s10 := t
          refine J_sub (ls' := [(0, _), (1, _), (2, _), (4, _), (5, _), (6, _), (7, _)]) [3, 4, 5, 7, 2, 1, 0] rfl ?_
          refine lw_X12_sheet_46  s10 (fun r11 er11 => ?_)
          refine J_iload_n (dk okX12_sheet 74 rfl) 0 rfl rfl ?_
          refine J_iconst (v := 3) (dk okX12_sheet 75 rfl) (by decide) ?_
          have K13 : J E G 2 mX12_sheet Q 150 [] [.int (if (r11.1) = 3 then (-3) else (r11.2.1) : Int32)] (r11.2.2) := by
            subst er11 eμ1
            (try simp only [if_neg h2, if_pos h3, if_neg h4, if_pos h9] at k ⊢)
            exact J_iret (dk okX12_sheet 80 rfl) rfl k
          refine J_icmp_ne (tgt := 148) (dk okX12_sheet 76 rfl) (by decide) (fun h12 => ?_) (fun h12 => ?_)
          · refine J_iload (dk okX12_sheet 79 rfl) 1 rfl ?_
            refine J_sub (ls' := []) [] rfl ?_
            (try simp only [if_neg h12] at K13 ⊢); exact K13
          · refine J_bipush (v := (-3)) (dk okX12_sheet 77 rfl) (by decide) ?_
            refine J_goto (tgt := 150) (dk okX12_sheet 78 rfl) (by decide) ?_
            refine J_sub (ls' := []) [] rfl ?_
            (try simp only [if_pos h12] at K13 ⊢); exact K13
        · refine J_bipush (v := (-2)) (dk okX12_sheet 19 rfl) (by decide) ?_
          subst eμ1
          (try simp only [if_neg h2, if_pos h3, if_neg h4, if_neg h9] at k ⊢)
          exact J_iret (dk okX12_sheet 20 rfl) rfl k
    · refine J_iconst (v := (-1)) (dk okX12_sheet 12 rfl) (by decide) ?_
      subst eμ1
      (try simp only [if_neg h2, if_neg h3] at k ⊢)
      exact J_iret (dk okX12_sheet 13 rfl) rfl k
noncomputable def bd_X1_loadOf_4 (b : Nat) (μ : Mm) (x1 : Int32) (x2 : Int32) (x3 : Int32) : (Int32 × Int32 × Int32) ⊕ (Int32) := (if (μ.1 b 0) ≤ x3 then .inr x2 else .inl (x1, (x2 + (if (v_X11_isIn x1 x3) = 0 then 0 else ((μ.1 (b + 1) (Int32.toNatClampNeg x3)) + (μ.1 (b + 4) (Int32.toNatClampNeg x3))) : Int32)), (x3 + 1)))
def sd_X1_loadOf_4 (b : Nat)  (μ : Mm) (x1 : Int32) (x2 : Int32) (x3 : Int32) : Prop := (¬ ((μ.1 b 0) ≤ x3) → (¬ ((v_X11_isIn x1 x3) = 0) → (vp_in x3 7) ∧ vp_in x3 7))
set_option maxRecDepth 20000 in
set_option maxHeartbeats 4000000 in
theorem lw_X1_loadOf_4 {E : Ex} {G : Gx} {Q : Option Value → Mm → Prop} {b : Nat} {x1 : Int32} {x2 : Int32} {x3 : Int32} {μ : Mm} (hb : FloorAt b) (p : whP (fun s : Int32 × Int32 × Int32 => bd_X1_loadOf_4 b μ s.1 s.2.1 s.2.2) (fun s : Int32 × Int32 × Int32 => sd_X1_loadOf_4 b  μ s.1 s.2.1 s.2.2) FU (x1, x2, x3)) (k : ∀ r : Int32, r = whl (fun s : Int32 × Int32 × Int32 => bd_X1_loadOf_4 b μ s.1 s.2.1 s.2.2) (fun _ : Int32 × Int32 × Int32 => 0) FU (x1, x2, x3) → J E G 2 mX1_loadOf Q 46 [(2, .int r)] [] μ) : J E G 2 mX1_loadOf Q 4 [(0, rf E b), (1, .int x1), (2, .int x2), (3, .int x3)] [] μ := by
  refine J_whl (f := (fun s : Int32 × Int32 × Int32 => bd_X1_loadOf_4 b μ s.1 s.2.1 s.2.2)) (dd := (fun _ : Int32 × Int32 × Int32 => 0)) (sd := (fun s : Int32 × Int32 × Int32 => sd_X1_loadOf_4 b  μ s.1 s.2.1 s.2.2)) (P := fun s : Int32 × Int32 × Int32 => J E G 2 mX1_loadOf Q 4 [(0, rf E b), (1, .int (s.1)), (2, .int (s.2.1)), (3, .int (s.2.2))] [] (μ)) (R := fun r : Int32 => J E G 2 mX1_loadOf Q 46 [(2, .int r)] [] μ) ?_ FU (x1, x2, x3) p (k _ rfl)
  clear p k
  rintro ⟨x1, x2, x3⟩ t k1 k2
  dsimp only [sd_X1_loadOf_4] at t
  have kb : ∀ (y1 : Int32) (y2 : Int32) (y3 : Int32) , bd_X1_loadOf_4 b μ x1 x2 x3 = .inl (y1, y2, y3) → J E G 2 mX1_loadOf Q 4 [(0, rf E b), (1, .int y1), (2, .int y2), (3, .int y3)] [] μ := fun y1 y2 y3  h => k1 (y1, y2, y3) h
  have kx : ∀ (y2 : Int32) , bd_X1_loadOf_4 b μ x1 x2 x3 = .inr y2 → J E G 2 mX1_loadOf Q 46 [(2, .int y2)] [] μ := fun y2  h => k2 y2 h
  clear k1 k2
  refine J_iload_n (dk okX1_loadOf 4 rfl) 3 rfl rfl ?_
  refine J_aload_n (dk okX1_loadOf 5 rfl) 0 rfl rfl ?_
  refine J_getI (dk okX1_loadOf 6 rfl) kfX1_9 hb.1 rfl ?_
  refine J_icmp_ge (tgt := 46) (dk okX1_loadOf 7 rfl) (by decide) (fun h1 => ?_) (fun h1 => ?_)
  · exact J_sub [2] rfl (kx x2 (by unfold bd_X1_loadOf_4; first | (simp only [if_pos h1]; done) | (simp only [if_pos h1]; rfl) | rfl))
  · have t := t h1
    refine J_iload_n (dk okX1_loadOf 8 rfl) 2 rfl rfl ?_
    refine J_iload_n (dk okX1_loadOf 9 rfl) 1 rfl rfl ?_
    refine J_iload_n (dk okX1_loadOf 10 rfl) 3 rfl rfl ?_
    refine J_callSNi (As := [.int x1, .int x3]) (dk okX1_loadOf 11 rfl) skX11_isIn lkX1_49 rfl rfl (Nat.le_of_ble_eq_true rfl) (by decide) (con_X11_isIn  ⟨_, rfl, ?_⟩)
    have K5 : J E G 2 mX1_loadOf Q 38 [(0, rf E b), (1, .int x1), (3, .int x3)] [.int (if (v_X11_isIn x1 x3) = 0 then 0 else ((μ.1 (b + 1) (Int32.toNatClampNeg x3)) + (μ.1 (b + 4) (Int32.toNatClampNeg x3))) : Int32), .int x2] μ := by
      refine J_iadd (dk okX1_loadOf 24 rfl) ?_
      refine J_istore_n (ls' := [(2, _), (0, _), (1, _), (3, _)]) (dk okX1_loadOf 25 rfl) rfl (by decide) rfl ?_
      refine J_iinc (v := (x3 + 1)) (ls' := [(3, _), (2, _), (0, _), (1, _)]) (dk okX1_loadOf 26 rfl) 3 rfl rfl (by decide) rfl ?_
      refine J_goto (tgt := 4) (dk okX1_loadOf 27 rfl) (by decide) ?_
      exact J_sub [2, 3, 1, 0] rfl (kb x1 (x2 + (if (v_X11_isIn x1 x3) = 0 then 0 else ((μ.1 (b + 1) (Int32.toNatClampNeg x3)) + (μ.1 (b + 4) (Int32.toNatClampNeg x3))) : Int32)) (x3 + 1) (by unfold bd_X1_loadOf_4; first | (simp only [if_neg h1]; done) | (simp only [if_neg h1]; rfl) | rfl))
    refine J_if_eq (tgt := 37) (dk okX1_loadOf 12 rfl) (by decide) (fun h2 => ?_) (fun h2 => ?_)
    · refine J_iconst (v := 0) (dk okX1_loadOf 23 rfl) (by decide) ?_
      refine J_sub (ls' := [(0, _), (1, _), (3, _)]) [0, 1, 3] rfl ?_
      (try simp only [if_pos h2] at K5 ⊢); exact K5
    · have t := t h2
      refine J_aload_n (dk okX1_loadOf 13 rfl) 0 rfl rfl ?_
      refine J_getR (dk okX1_loadOf 14 rfl) kfX1_15 hb.1 rfl ?_
      refine J_iload_n (dk okX1_loadOf 15 rfl) 3 rfl rfl ?_
      obtain ⟨s3, t⟩ := t
      refine J_iald (dk okX1_loadOf 16 rfl) hb.2.1 s3 ?_
      refine J_aload_n (dk okX1_loadOf 17 rfl) 0 rfl rfl ?_
      refine J_getR (dk okX1_loadOf 18 rfl) kfX1_25 hb.1 rfl ?_
      refine J_iload_n (dk okX1_loadOf 19 rfl) 3 rfl rfl ?_
      have s4 := t
      refine J_iald (dk okX1_loadOf 20 rfl) hb.2.2.2.2.1 s4 ?_
      refine J_iadd (dk okX1_loadOf 21 rfl) ?_
      refine J_goto (tgt := 38) (dk okX1_loadOf 22 rfl) (by decide) ?_
      refine J_sub (ls' := [(0, _), (1, _), (3, _)]) [0, 1, 3] rfl ?_
      (try simp only [if_neg h2] at K5 ⊢); exact K5
/-- VotingFloor$Floor.loadOf(I)I -/
noncomputable def v_X1_loadOf (b : Nat) (p0 : Int32) (μ : Mm) : Int32 := (let r2 : Int32 := whl (fun s : Int32 × Int32 × Int32 => bd_X1_loadOf_4 b μ s.1 s.2.1 s.2.2) (fun _ : Int32 × Int32 × Int32 => 0) FU (p0, 0, 0); r2)
def p_X1_loadOf (b : Nat) (p0 : Int32)  (μ : Mm) : Prop := whP (fun s : Int32 × Int32 × Int32 => bd_X1_loadOf_4 b μ s.1 s.2.1 s.2.2) (fun s : Int32 × Int32 × Int32 => sd_X1_loadOf_4 b  μ s.1 s.2.1 s.2.2) FU (p0, 0, 0)
set_option maxRecDepth 20000 in
set_option maxHeartbeats 4000000 in
theorem con_X1_loadOf {E : Ex} {Q : Option Value → Mm → Prop} {b : Nat} {p0 : Int32} {μ : Mm} (hb : FloorAt b) (t : p_X1_loadOf b p0  μ) (k : Q (some (.int (v_X1_loadOf b p0 μ))) μ) : Con E 2 mX1_loadOf [rf E b, .int p0] μ Q := by
  refine Con_J (by decide +kernel) (Nat.le_of_ble_eq_true rfl) (fun G => ?_)
  unfold v_X1_loadOf at k
  unfold p_X1_loadOf at t
  refine J_sub (ls' := [(0, rf E b), (1, .int p0)]) [0, 1] rfl ?_
  refine J_iconst (v := 0) (dk okX1_loadOf 0 rfl) (by decide) ?_
  refine J_istore_n (ls' := [(2, _), (0, _), (1, _)]) (dk okX1_loadOf 1 rfl) rfl (by decide) rfl ?_
  refine J_iconst (v := 0) (dk okX1_loadOf 2 rfl) (by decide) ?_
  refine J_istore_n (ls' := [(3, _), (2, _), (0, _), (1, _)]) (dk okX1_loadOf 3 rfl) rfl (by decide) rfl ?_
  have s1 := t
  refine J_sub (ls' := [(0, _), (1, _), (2, _), (3, _)]) [2, 3, 1, 0] rfl ?_
  refine lw_X1_loadOf_4 hb s1 (fun r2 er2 => ?_)
  refine J_iload_n (dk okX1_loadOf 28 rfl) 0 rfl rfl ?_
  subst er2
  exact J_iret (dk okX1_loadOf 29 rfl) rfl k
noncomputable def bd_X1_standingOn_4 (b : Nat) (μ : Mm) (x1 : Int32) (x2 : Int32) (x3 : Int32) : (Int32 × Int32 × Int32) ⊕ (Int32) := (if (μ.1 b 0) ≤ x3 then .inr x2 else .inl (x1, (if (v_X1_isOff b x3 μ) = 0 then (if (μ.1 (b + 3) (Int32.toNatClampNeg x3)) = x1 then (x2 ||| (1 <<< (x3 &&& 31))) else x2 : Int32) else x2 : Int32), (x3 + 1)))
def sd_X1_standingOn_4 (b : Nat)  (μ : Mm) (x1 : Int32) (x2 : Int32) (x3 : Int32) : Prop := (¬ ((μ.1 b 0) ≤ x3) → ((v_X1_isOff b x3 μ) = 0 → vp_in x3 7))
set_option maxRecDepth 20000 in
set_option maxHeartbeats 4000000 in
theorem lw_X1_standingOn_4 {E : Ex} {G : Gx} {Q : Option Value → Mm → Prop} {b : Nat} {x1 : Int32} {x2 : Int32} {x3 : Int32} {μ : Mm} (hb : FloorAt b) (p : whP (fun s : Int32 × Int32 × Int32 => bd_X1_standingOn_4 b μ s.1 s.2.1 s.2.2) (fun s : Int32 × Int32 × Int32 => sd_X1_standingOn_4 b  μ s.1 s.2.1 s.2.2) FU (x1, x2, x3)) (k : ∀ r : Int32, r = whl (fun s : Int32 × Int32 × Int32 => bd_X1_standingOn_4 b μ s.1 s.2.1 s.2.2) (fun _ : Int32 × Int32 × Int32 => 0) FU (x1, x2, x3) → J E G 2 mX1_standingOn Q 42 [(2, .int r)] [] μ) : J E G 2 mX1_standingOn Q 4 [(0, rf E b), (1, .int x1), (2, .int x2), (3, .int x3)] [] μ := by
  refine J_whl (f := (fun s : Int32 × Int32 × Int32 => bd_X1_standingOn_4 b μ s.1 s.2.1 s.2.2)) (dd := (fun _ : Int32 × Int32 × Int32 => 0)) (sd := (fun s : Int32 × Int32 × Int32 => sd_X1_standingOn_4 b  μ s.1 s.2.1 s.2.2)) (P := fun s : Int32 × Int32 × Int32 => J E G 2 mX1_standingOn Q 4 [(0, rf E b), (1, .int (s.1)), (2, .int (s.2.1)), (3, .int (s.2.2))] [] (μ)) (R := fun r : Int32 => J E G 2 mX1_standingOn Q 42 [(2, .int r)] [] μ) ?_ FU (x1, x2, x3) p (k _ rfl)
  clear p k
  rintro ⟨x1, x2, x3⟩ t k1 k2
  dsimp only [sd_X1_standingOn_4] at t
  have kb : ∀ (y1 : Int32) (y2 : Int32) (y3 : Int32) , bd_X1_standingOn_4 b μ x1 x2 x3 = .inl (y1, y2, y3) → J E G 2 mX1_standingOn Q 4 [(0, rf E b), (1, .int y1), (2, .int y2), (3, .int y3)] [] μ := fun y1 y2 y3  h => k1 (y1, y2, y3) h
  have kx : ∀ (y2 : Int32) , bd_X1_standingOn_4 b μ x1 x2 x3 = .inr y2 → J E G 2 mX1_standingOn Q 42 [(2, .int y2)] [] μ := fun y2  h => k2 y2 h
  clear k1 k2
  refine J_iload_n (dk okX1_standingOn 4 rfl) 3 rfl rfl ?_
  refine J_aload_n (dk okX1_standingOn 5 rfl) 0 rfl rfl ?_
  refine J_getI (dk okX1_standingOn 6 rfl) kfX1_9 hb.1 rfl ?_
  refine J_icmp_ge (tgt := 42) (dk okX1_standingOn 7 rfl) (by decide) (fun h1 => ?_) (fun h1 => ?_)
  · exact J_sub [2] rfl (kx x2 (by unfold bd_X1_standingOn_4; first | (simp only [if_pos h1]; done) | (simp only [if_pos h1]; rfl) | rfl))
  · have t := t h1
    refine J_aload_n (dk okX1_standingOn 8 rfl) 0 rfl rfl ?_
    refine J_iload_n (dk okX1_standingOn 9 rfl) 3 rfl rfl ?_
    refine J_callVi (As := [.int x3]) (dk okX1_standingOn 10 rfl) hb.1 rfl vkX1_isOff lkX1_53 rfl rfl (Nat.le_of_ble_eq_true rfl) (by decide) (con_X1_isOff hb ⟨_, rfl, ?_⟩)
    have K5 : J E G 2 mX1_standingOn Q 36 [(0, rf E b), (1, .int x1), (2, .int (if (v_X1_isOff b x3 μ) = 0 then (if (μ.1 (b + 3) (Int32.toNatClampNeg x3)) = x1 then (x2 ||| (1 <<< (x3 &&& 31))) else x2 : Int32) else x2 : Int32)), (3, .int x3)] [] μ := by
      refine J_iinc (v := (x3 + 1)) (ls' := [(3, _), (0, _), (1, _), (2, _)]) (dk okX1_standingOn 24 rfl) 3 rfl rfl (by decide) rfl ?_
      refine J_goto (tgt := 4) (dk okX1_standingOn 25 rfl) (by decide) ?_
      exact J_sub [1, 2, 3, 0] rfl (kb x1 (if (v_X1_isOff b x3 μ) = 0 then (if (μ.1 (b + 3) (Int32.toNatClampNeg x3)) = x1 then (x2 ||| (1 <<< (x3 &&& 31))) else x2 : Int32) else x2 : Int32) (x3 + 1) (by unfold bd_X1_standingOn_4; first | (simp only [if_neg h1]; done) | (simp only [if_neg h1]; rfl) | rfl))
    refine J_if_ne (tgt := 36) (dk okX1_standingOn 11 rfl) (by decide) (fun h2 => ?_) (fun h2 => ?_)
    · refine J_sub (ls' := [(0, _), (1, _), (2, _), (3, _)]) [0, 1, 2, 3] rfl ?_
      (try simp only [if_neg h2] at K5 ⊢); exact K5
    · have t := t h2
      refine J_aload_n (dk okX1_standingOn 12 rfl) 0 rfl rfl ?_
      refine J_getR (dk okX1_standingOn 13 rfl) kfX1_22 hb.1 rfl ?_
      refine J_iload_n (dk okX1_standingOn 14 rfl) 3 rfl rfl ?_
      have s3 := t
      refine J_iald (dk okX1_standingOn 15 rfl) hb.2.2.2.1 s3 ?_
      refine J_iload_n (dk okX1_standingOn 16 rfl) 1 rfl rfl ?_
      refine J_icmp_ne (tgt := 36) (dk okX1_standingOn 17 rfl) (by decide) (fun h4 => ?_) (fun h4 => ?_)
      · refine J_sub (ls' := [(0, _), (1, _), (2, _), (3, _)]) [0, 1, 2, 3] rfl ?_
        (try simp only [if_pos h2, if_neg h4] at K5 ⊢); exact K5
      · refine J_iload_n (dk okX1_standingOn 18 rfl) 2 rfl rfl ?_
        refine J_iconst (v := 1) (dk okX1_standingOn 19 rfl) (by decide) ?_
        refine J_iload_n (dk okX1_standingOn 20 rfl) 3 rfl rfl ?_
        refine J_ishl (dk okX1_standingOn 21 rfl) ?_
        refine J_ior (dk okX1_standingOn 22 rfl) ?_
        refine J_istore_n (ls' := [(2, _), (0, _), (1, _), (3, _)]) (dk okX1_standingOn 23 rfl) rfl (by decide) rfl ?_
        refine J_sub (ls' := [(0, _), (1, _), (2, _), (3, _)]) [1, 2, 0, 3] rfl ?_
        (try simp only [if_pos h2, if_pos h4] at K5 ⊢); exact K5
/-- VotingFloor$Floor.standingOn(I)I -/
noncomputable def v_X1_standingOn (b : Nat) (p0 : Int32) (μ : Mm) : Int32 := (let r2 : Int32 := whl (fun s : Int32 × Int32 × Int32 => bd_X1_standingOn_4 b μ s.1 s.2.1 s.2.2) (fun _ : Int32 × Int32 × Int32 => 0) FU (p0, 0, 0); r2)
def p_X1_standingOn (b : Nat) (p0 : Int32)  (μ : Mm) : Prop := whP (fun s : Int32 × Int32 × Int32 => bd_X1_standingOn_4 b μ s.1 s.2.1 s.2.2) (fun s : Int32 × Int32 × Int32 => sd_X1_standingOn_4 b  μ s.1 s.2.1 s.2.2) FU (p0, 0, 0)
set_option maxRecDepth 20000 in
set_option maxHeartbeats 4000000 in
theorem con_X1_standingOn {E : Ex} {Q : Option Value → Mm → Prop} {b : Nat} {p0 : Int32} {μ : Mm} (hb : FloorAt b) (t : p_X1_standingOn b p0  μ) (k : Q (some (.int (v_X1_standingOn b p0 μ))) μ) : Con E 2 mX1_standingOn [rf E b, .int p0] μ Q := by
  refine Con_J (by decide +kernel) (Nat.le_of_ble_eq_true rfl) (fun G => ?_)
  unfold v_X1_standingOn at k
  unfold p_X1_standingOn at t
  refine J_sub (ls' := [(0, rf E b), (1, .int p0)]) [0, 1] rfl ?_
  refine J_iconst (v := 0) (dk okX1_standingOn 0 rfl) (by decide) ?_
  refine J_istore_n (ls' := [(2, _), (0, _), (1, _)]) (dk okX1_standingOn 1 rfl) rfl (by decide) rfl ?_
  refine J_iconst (v := 0) (dk okX1_standingOn 2 rfl) (by decide) ?_
  refine J_istore_n (ls' := [(3, _), (2, _), (0, _), (1, _)]) (dk okX1_standingOn 3 rfl) rfl (by decide) rfl ?_
  have s1 := t
  refine J_sub (ls' := [(0, _), (1, _), (2, _), (3, _)]) [2, 3, 1, 0] rfl ?_
  refine lw_X1_standingOn_4 hb s1 (fun r2 er2 => ?_)
  refine J_iload_n (dk okX1_standingOn 26 rfl) 0 rfl rfl ?_
  subst er2
  exact J_iret (dk okX1_standingOn 27 rfl) rfl k
/-- VotingFloor$Past.back(LVotingFloor$Floor;)Z -/
noncomputable def v_X3_back (p0 : Nat) (μ : Mm) : Int32 := (if (μ.1 29 2) = 0 then 0 else 1)
noncomputable def e_X3_back (p0 : Nat) (μ : Mm) : Mm := (if (μ.1 29 2) = 0 then μ else (let μ2 : Mm := (upI μ 29 1 ((((μ.1 29 1) + 16) - 1) - (((μ.1 29 1) + 16) - 1) / 16 * 16)); (let μ3 : Mm := (upI μ2 29 2 ((μ2.1 29 2) - 1)); (let μ5 : Mm := (e_X1_readFrom p0 30 384 ((μ3.1 29 1) * 24) μ3); μ5))))
def p_X3_back (p0 : Nat)  (μ : Mm) : Prop := (¬ ((μ.1 29 2) = 0) → (∀ μ2 : Mm, μ2 = (upI μ 29 1 ((((μ.1 29 1) + 16) - 1) - (((μ.1 29 1) + 16) - 1) / 16 * 16)) → (∀ μ3 : Mm, μ3 = (upI μ2 29 2 ((μ2.1 29 2) - 1)) → p_X1_readFrom p0 30 384 ((μ3.1 29 1) * 24) μ3)))
set_option maxRecDepth 20000 in
set_option maxHeartbeats 4000000 in
theorem con_X3_back {E : Ex} {Q : Option Value → Mm → Prop} {p0 : Nat} {μ : Mm} (hp0 : FloorAt p0) (t : p_X3_back p0  μ) (k : Q (some (.int (v_X3_back p0 μ))) (e_X3_back p0 μ)) : Con E 2 mX3_back [rf E 29, rf E p0] μ Q := by
  refine Con_J (by decide +kernel) (Nat.le_of_ble_eq_true rfl) (fun G => ?_)
  unfold v_X3_back e_X3_back at k
  unfold p_X3_back at t
  refine J_sub (ls' := [(0, rf E 29), (1, rf E p0)]) [0, 1] rfl ?_
  refine J_aload_n (dk okX3_back 0 rfl) 0 rfl rfl ?_
  refine J_getI (dk okX3_back 1 rfl) kfX3_19 ds_29 rfl ?_
  refine J_if_ne (tgt := 9) (dk okX3_back 2 rfl) (by decide) (fun h1 => ?_) (fun h1 => ?_)
  · have t := t h1
    refine J_aload_n (dk okX3_back 5 rfl) 0 rfl rfl ?_
    refine J_aload_n (dk okX3_back 6 rfl) 0 rfl rfl ?_
    refine J_getI (dk okX3_back 7 rfl) kfX3_15 ds_29 rfl ?_
    refine J_bipush (v := 16) (dk okX3_back 8 rfl) (by decide) ?_
    refine J_iadd (dk okX3_back 9 rfl) ?_
    refine J_iconst (v := 1) (dk okX3_back 10 rfl) (by decide) ?_
    refine J_isub (dk okX3_back 11 rfl) ?_
    refine J_bipush (v := 16) (dk okX3_back 12 rfl) (by decide) ?_
    refine J_irem (dk okX3_back 13 rfl) (by decide) ?_
    refine J_put (dk okX3_back 14 rfl) kpX3_15 ds_29 rfl rfl rfl ?_
    refine J_nm (fun μ2 eμ2 => ?_)
    have t := t μ2 eμ2
    refine J_aload_n (dk okX3_back 15 rfl) 0 rfl rfl ?_
    refine J_dup (dk okX3_back 16 rfl) rfl ?_
    refine J_getI (dk okX3_back 17 rfl) kfX3_19 ds_29 rfl ?_
    refine J_iconst (v := 1) (dk okX3_back 18 rfl) (by decide) ?_
    refine J_isub (dk okX3_back 19 rfl) ?_
    refine J_put (dk okX3_back 20 rfl) kpX3_19 ds_29 rfl rfl rfl ?_
    refine J_nm (fun μ3 eμ3 => ?_)
    have t := t μ3 eμ3
    refine J_aload_n (dk okX3_back 21 rfl) 1 rfl rfl ?_
    refine J_aload_n (dk okX3_back 22 rfl) 0 rfl rfl ?_
    refine J_getR (dk okX3_back 23 rfl) kfX3_11 ds_29 rfl ?_
    refine J_aload_n (dk okX3_back 24 rfl) 0 rfl rfl ?_
    refine J_getI (dk okX3_back 25 rfl) kfX3_15 ds_29 rfl ?_
    refine J_bipush (v := 24) (dk okX3_back 26 rfl) (by decide) ?_
    refine J_imul (dk okX3_back 27 rfl) ?_
    have s4 := t
    refine J_callVv (As := [rf E 30, .int ((μ3.1 29 1) * 24)]) (dk okX3_back 28 rfl) hp0.1 rfl vkX1_readFrom lkX3_39 rfl rfl (Nat.le_of_ble_eq_true rfl) (by decide) (con_X1_readFrom hp0 ds_30 s4 ⟨rfl, ?_⟩)
    refine J_nm (fun μ5 eμ5 => ?_)
    refine J_iconst (v := 1) (dk okX3_back 29 rfl) (by decide) ?_
    subst eμ5 eμ3 eμ2
    (try simp only [if_neg h1] at k ⊢)
    exact J_zret (dk okX3_back 30 rfl) rfl rfl k
  · refine J_iconst (v := 0) (dk okX3_back 3 rfl) (by decide) ?_
    (try simp only [if_pos h1] at k ⊢)
    exact J_zret (dk okX3_back 4 rfl) rfl rfl k
theorem nb_X3_back (p0 : Nat) (μ : Mm) : narrow .boolean (.int (v_X3_back p0 μ)) = .int (v_X3_back p0 μ) := by
  unfold v_X3_back; (repeat' split) <;> rfl
/-- VotingFloor$Past.note(LVotingFloor$Floor;)V -/
noncomputable def e_X3_note (p0 : Nat) (μ : Mm) : Mm := (let μ2 : Mm := (e_X1_writeTo p0 30 384 ((μ.1 29 1) * 24) μ); μ2)
def p_X3_note (p0 : Nat)  (μ : Mm) : Prop := p_X1_writeTo p0 30 384 ((μ.1 29 1) * 24) μ
set_option maxRecDepth 20000 in
set_option maxHeartbeats 4000000 in
theorem con_X3_note {E : Ex} {Q : Option Value → Mm → Prop} {p0 : Nat} {μ : Mm} (hp0 : FloorAt p0) (t : p_X3_note p0  μ) (k : Q none (e_X3_note p0 μ)) : Con E 2 mX3_note [rf E 29, rf E p0] μ Q := by
  refine Con_J (by decide +kernel) (Nat.le_of_ble_eq_true rfl) (fun G => ?_)
  unfold e_X3_note at k
  unfold p_X3_note at t
  refine J_sub (ls' := [(0, rf E 29), (1, rf E p0)]) [0, 1] rfl ?_
  refine J_aload_n (dk okX3_note 0 rfl) 1 rfl rfl ?_
  refine J_aload_n (dk okX3_note 1 rfl) 0 rfl rfl ?_
  refine J_getR (dk okX3_note 2 rfl) kfX3_11 ds_29 rfl ?_
  refine J_aload_n (dk okX3_note 3 rfl) 0 rfl rfl ?_
  refine J_getI (dk okX3_note 4 rfl) kfX3_15 ds_29 rfl ?_
  refine J_bipush (v := 24) (dk okX3_note 5 rfl) (by decide) ?_
  refine J_imul (dk okX3_note 6 rfl) ?_
  have s1 := t
  refine J_callVv (As := [rf E 30, .int ((μ.1 29 1) * 24)]) (dk okX3_note 7 rfl) hp0.1 rfl vkX1_writeTo lkX3_29 rfl rfl (Nat.le_of_ble_eq_true rfl) (by decide) (con_X1_writeTo hp0 ds_30 s1 ⟨rfl, ?_⟩)
  refine J_nm (fun μ2 eμ2 => ?_)
  subst eμ2
  exact J_vret (dk okX3_note 8 rfl) rfl k
/-- VotingFloor$Past.shelve(ILVotingFloor$Floor;)Z -/
noncomputable def v_X3_shelve (p0 : Int32) (p1 : Nat) : Int32 := (if p0 < 0 then 0 else (if p0 < 3 then 1 else 0))
noncomputable def e_X3_shelve (p0 : Int32) (p1 : Nat) (μ : Mm) : Mm := (if p0 < 0 then μ else (if p0 < 3 then (let μ4 : Mm := (e_X1_writeTo p1 31 72 (p0 * 24) μ); (let μ6 : Mm := (upI μ4 32 (Int32.toNatClampNeg p0) (vp_nar .boolean 1)); μ6)) else μ))
def p_X3_shelve (p0 : Int32) (p1 : Nat)  (μ : Mm) : Prop := (¬ (p0 < 0) → (p0 < 3 → (p_X1_writeTo p1 31 72 (p0 * 24) μ) ∧ (∀ μ4 : Mm, μ4 = (e_X1_writeTo p1 31 72 (p0 * 24) μ) → vp_in p0 3)))
set_option maxRecDepth 20000 in
set_option maxHeartbeats 4000000 in
theorem con_X3_shelve {E : Ex} {Q : Option Value → Mm → Prop} {p0 : Int32} {p1 : Nat} {μ : Mm} (hp1 : FloorAt p1) (t : p_X3_shelve p0 p1  μ) (k : Q (some (.int (v_X3_shelve p0 p1))) (e_X3_shelve p0 p1 μ)) : Con E 2 mX3_shelve [rf E 29, .int p0, rf E p1] μ Q := by
  refine Con_J (by decide +kernel) (Nat.le_of_ble_eq_true rfl) (fun G => ?_)
  unfold v_X3_shelve e_X3_shelve at k
  unfold p_X3_shelve at t
  refine J_sub (ls' := [(0, rf E 29), (1, .int p0), (2, rf E p1)]) [0, 1, 2] rfl ?_
  refine J_iload_n (dk okX3_shelve 0 rfl) 1 rfl rfl ?_
  refine J_if_lt (tgt := 9) (dk okX3_shelve 1 rfl) (by decide) (fun h1 => ?_) (fun h1 => ?_)
  · refine J_iconst (v := 0) (dk okX3_shelve 5 rfl) (by decide) ?_
    (try simp only [if_pos h1] at k ⊢)
    exact J_zret (dk okX3_shelve 6 rfl) rfl rfl k
  · have t := t h1
    refine J_iload_n (dk okX3_shelve 2 rfl) 1 rfl rfl ?_
    refine J_iconst (v := 3) (dk okX3_shelve 3 rfl) (by decide) ?_
    refine J_icmp_lt (tgt := 11) (dk okX3_shelve 4 rfl) (by decide) (fun h2 => ?_) (fun h2 => ?_)
    · have t := t h2
      refine J_aload_n (dk okX3_shelve 7 rfl) 2 rfl rfl ?_
      refine J_aload_n (dk okX3_shelve 8 rfl) 0 rfl rfl ?_
      refine J_getR (dk okX3_shelve 9 rfl) kfX3_22 ds_29 rfl ?_
      refine J_iload_n (dk okX3_shelve 10 rfl) 1 rfl rfl ?_
      refine J_bipush (v := 24) (dk okX3_shelve 11 rfl) (by decide) ?_
      refine J_imul (dk okX3_shelve 12 rfl) ?_
      obtain ⟨s3, t⟩ := t
      refine J_callVv (As := [rf E 31, .int (p0 * 24)]) (dk okX3_shelve 13 rfl) hp1.1 rfl vkX1_writeTo lkX3_29 rfl rfl (Nat.le_of_ble_eq_true rfl) (by decide) (con_X1_writeTo hp1 ds_31 s3 ⟨rfl, ?_⟩)
      refine J_nm (fun μ4 eμ4 => ?_)
      have t := t μ4 eμ4
      refine J_aload_n (dk okX3_shelve 14 rfl) 0 rfl rfl ?_
      refine J_getR (dk okX3_shelve 15 rfl) kfX3_25 ds_29 rfl ?_
      refine J_iload_n (dk okX3_shelve 16 rfl) 1 rfl rfl ?_
      refine J_iconst (v := 1) (dk okX3_shelve 17 rfl) (by decide) ?_
      have s5 := t
      refine J_zast (dk okX3_shelve 18 rfl) ds_32 s5 ?_
      refine J_nm (fun μ6 eμ6 => ?_)
      refine J_iconst (v := 1) (dk okX3_shelve 19 rfl) (by decide) ?_
      subst eμ6 eμ4
      (try simp only [if_neg h1, if_pos h2] at k ⊢)
      exact J_zret (dk okX3_shelve 20 rfl) rfl rfl k
    · refine J_iconst (v := 0) (dk okX3_shelve 5 rfl) (by decide) ?_
      (try simp only [if_neg h1, if_neg h2] at k ⊢)
      exact J_zret (dk okX3_shelve 6 rfl) rfl rfl k
theorem nb_X3_shelve (p0 : Int32) (p1 : Nat) : narrow .boolean (.int (v_X3_shelve p0 p1)) = .int (v_X3_shelve p0 p1) := by
  unfold v_X3_shelve; (repeat' split) <;> rfl
/-- VotingFloor$Past.takeDown(ILVotingFloor$Floor;)Z -/
noncomputable def v_X3_takeDown (p0 : Int32) (p1 : Nat) (μ : Mm) : Int32 := (if p0 < 0 then 0 else (if 3 ≤ p0 then 0 else (if (μ.1 32 (Int32.toNatClampNeg p0)) = 0 then 0 else 1)))
noncomputable def e_X3_takeDown (p0 : Int32) (p1 : Nat) (μ : Mm) : Mm := (if p0 < 0 then μ else (if 3 ≤ p0 then μ else (if (μ.1 32 (Int32.toNatClampNeg p0)) = 0 then μ else (let μ6 : Mm := (e_X1_readFrom p1 31 72 (p0 * 24) μ); (let μ7 : Mm := (upI μ6 29 2 0); μ7)))))
def p_X3_takeDown (p0 : Int32) (p1 : Nat)  (μ : Mm) : Prop := (¬ (p0 < 0) → (¬ (3 ≤ p0) → (vp_in p0 3) ∧ (¬ ((μ.1 32 (Int32.toNatClampNeg p0)) = 0) → p_X1_readFrom p1 31 72 (p0 * 24) μ)))
set_option maxRecDepth 20000 in
set_option maxHeartbeats 4000000 in
theorem con_X3_takeDown {E : Ex} {Q : Option Value → Mm → Prop} {p0 : Int32} {p1 : Nat} {μ : Mm} (hp1 : FloorAt p1) (t : p_X3_takeDown p0 p1  μ) (k : Q (some (.int (v_X3_takeDown p0 p1 μ))) (e_X3_takeDown p0 p1 μ)) : Con E 2 mX3_takeDown [rf E 29, .int p0, rf E p1] μ Q := by
  refine Con_J (by decide +kernel) (Nat.le_of_ble_eq_true rfl) (fun G => ?_)
  unfold v_X3_takeDown e_X3_takeDown at k
  unfold p_X3_takeDown at t
  refine J_sub (ls' := [(0, rf E 29), (1, .int p0), (2, rf E p1)]) [0, 1, 2] rfl ?_
  refine J_iload_n (dk okX3_takeDown 0 rfl) 1 rfl rfl ?_
  refine J_if_lt (tgt := 18) (dk okX3_takeDown 1 rfl) (by decide) (fun h1 => ?_) (fun h1 => ?_)
  · refine J_iconst (v := 0) (dk okX3_takeDown 10 rfl) (by decide) ?_
    (try simp only [if_pos h1] at k ⊢)
    exact J_zret (dk okX3_takeDown 11 rfl) rfl rfl k
  · have t := t h1
    refine J_iload_n (dk okX3_takeDown 2 rfl) 1 rfl rfl ?_
    refine J_iconst (v := 3) (dk okX3_takeDown 3 rfl) (by decide) ?_
    refine J_icmp_ge (tgt := 18) (dk okX3_takeDown 4 rfl) (by decide) (fun h2 => ?_) (fun h2 => ?_)
    · refine J_iconst (v := 0) (dk okX3_takeDown 10 rfl) (by decide) ?_
      (try simp only [if_neg h1, if_pos h2] at k ⊢)
      exact J_zret (dk okX3_takeDown 11 rfl) rfl rfl k
    · have t := t h2
      refine J_aload_n (dk okX3_takeDown 5 rfl) 0 rfl rfl ?_
      refine J_getR (dk okX3_takeDown 6 rfl) kfX3_25 ds_29 rfl ?_
      refine J_iload_n (dk okX3_takeDown 7 rfl) 1 rfl rfl ?_
      obtain ⟨s3, t⟩ := t
      refine J_zald (dk okX3_takeDown 8 rfl) ds_32 s3 ?_
      refine J_if_ne (tgt := 20) (dk okX3_takeDown 9 rfl) (by decide) (fun h4 => ?_) (fun h4 => ?_)
      · have t := t h4
        refine J_aload_n (dk okX3_takeDown 12 rfl) 2 rfl rfl ?_
        refine J_aload_n (dk okX3_takeDown 13 rfl) 0 rfl rfl ?_
        refine J_getR (dk okX3_takeDown 14 rfl) kfX3_22 ds_29 rfl ?_
        refine J_iload_n (dk okX3_takeDown 15 rfl) 1 rfl rfl ?_
        refine J_bipush (v := 24) (dk okX3_takeDown 16 rfl) (by decide) ?_
        refine J_imul (dk okX3_takeDown 17 rfl) ?_
        have s5 := t
        refine J_callVv (As := [rf E 31, .int (p0 * 24)]) (dk okX3_takeDown 18 rfl) hp1.1 rfl vkX1_readFrom lkX3_39 rfl rfl (Nat.le_of_ble_eq_true rfl) (by decide) (con_X1_readFrom hp1 ds_31 s5 ⟨rfl, ?_⟩)
        refine J_nm (fun μ6 eμ6 => ?_)
        refine J_aload_n (dk okX3_takeDown 19 rfl) 0 rfl rfl ?_
        refine J_iconst (v := 0) (dk okX3_takeDown 20 rfl) (by decide) ?_
        refine J_put (dk okX3_takeDown 21 rfl) kpX3_19 ds_29 rfl rfl rfl ?_
        refine J_nm (fun μ7 eμ7 => ?_)
        refine J_iconst (v := 1) (dk okX3_takeDown 22 rfl) (by decide) ?_
        subst eμ7 eμ6
        (try simp only [if_neg h1, if_neg h2, if_neg h4] at k ⊢)
        exact J_zret (dk okX3_takeDown 23 rfl) rfl rfl k
      · refine J_iconst (v := 0) (dk okX3_takeDown 10 rfl) (by decide) ?_
        (try simp only [if_neg h1, if_neg h2, if_pos h4] at k ⊢)
        exact J_zret (dk okX3_takeDown 11 rfl) rfl rfl k
theorem nb_X3_takeDown (p0 : Int32) (p1 : Nat) (μ : Mm) : narrow .boolean (.int (v_X3_takeDown p0 p1 μ)) = .int (v_X3_takeDown p0 p1 μ) := by
  unfold v_X3_takeDown; (repeat' split) <;> rfl
noncomputable def bd_X5_emitWaiting_2 (b : Nat) (x1 : Int32) (x2 : Int32) (μ : Mm) : (Int32 × Int32 × Mm) ⊕ (Mm) := (if 40 < x2 then .inr μ else (if (v_X5_rankOf (v_X4_top (b + 3) μ)) < x1 then .inr μ else (let μ5 : Mm := (e_X4_pop (b + 3) μ); (let μ7 : Mm := (e_X5_emit b (-(v_X4_pop (b + 3) μ)) μ5); .inl (x1, (x2 + 1), μ7)))))
def sd_X5_emitWaiting_2 (b : Nat)  (x1 : Int32) (x2 : Int32) (μ : Mm) : Prop := (¬ (40 < x2) → (p_X4_top (b + 3) μ) ∧ (¬ ((v_X5_rankOf (v_X4_top (b + 3) μ)) < x1) → (p_X4_pop (b + 3) μ) ∧ (∀ μ5 : Mm, μ5 = (e_X4_pop (b + 3) μ) → p_X5_emit b (-(v_X4_pop (b + 3) μ)) μ5)))
set_option maxRecDepth 20000 in
set_option maxHeartbeats 4000000 in
theorem lw_X5_emitWaiting_2 {E : Ex} {G : Gx} {Q : Option Value → Mm → Prop} {b : Nat} {x1 : Int32} {x2 : Int32} {μ : Mm} (hb : RuleAt b) (p : whP (fun s : Int32 × Int32 × Mm => bd_X5_emitWaiting_2 b s.1 s.2.1 s.2.2) (fun s : Int32 × Int32 × Mm => sd_X5_emitWaiting_2 b  s.1 s.2.1 s.2.2) FU (x1, x2, μ)) (k : ∀ r : Mm, r = whl (fun s : Int32 × Int32 × Mm => bd_X5_emitWaiting_2 b s.1 s.2.1 s.2.2) (fun s : Int32 × Int32 × Mm => s.2.2) FU (x1, x2, μ) → J E G 2 mX5_emitWaiting Q 40 [] [] r) : J E G 2 mX5_emitWaiting Q 2 [(0, rf E b), (1, .int x1), (2, .int x2)] [] μ := by
  refine J_whl (f := (fun s : Int32 × Int32 × Mm => bd_X5_emitWaiting_2 b s.1 s.2.1 s.2.2)) (dd := (fun s : Int32 × Int32 × Mm => s.2.2)) (sd := (fun s : Int32 × Int32 × Mm => sd_X5_emitWaiting_2 b  s.1 s.2.1 s.2.2)) (P := fun s : Int32 × Int32 × Mm => J E G 2 mX5_emitWaiting Q 2 [(0, rf E b), (1, .int (s.1)), (2, .int (s.2.1))] [] (s.2.2)) (R := fun r : Mm => J E G 2 mX5_emitWaiting Q 40 [] [] r) ?_ FU (x1, x2, μ) p (k _ rfl)
  clear p k
  rintro ⟨x1, x2, μ⟩ t k1 k2
  dsimp only [sd_X5_emitWaiting_2] at t
  have kb : ∀ (y1 : Int32) (y2 : Int32) (μ9 : Mm), bd_X5_emitWaiting_2 b x1 x2 μ = .inl (y1, y2, μ9) → J E G 2 mX5_emitWaiting Q 2 [(0, rf E b), (1, .int y1), (2, .int y2)] [] μ9 := fun y1 y2 μ9 h => k1 (y1, y2, μ9) h
  have kx : ∀  (μ9 : Mm), bd_X5_emitWaiting_2 b x1 x2 μ = .inr μ9 → J E G 2 mX5_emitWaiting Q 40 [] [] μ9 := fun  μ9 h => k2 μ9 h
  clear k1 k2
  refine J_iload_n (dk okX5_emitWaiting 2 rfl) 2 rfl rfl ?_
  refine J_bipush (v := 40) (dk okX5_emitWaiting 3 rfl) (by decide) ?_
  refine J_icmp_gt (tgt := 40) (dk okX5_emitWaiting 4 rfl) (by decide) (fun h1 => ?_) (fun h1 => ?_)
  · exact J_sub [] rfl (kx μ (by unfold bd_X5_emitWaiting_2; first | (simp only [if_pos h1]; done) | (simp only [if_pos h1]; rfl) | rfl))
  · have t := t h1
    refine J_aload_n (dk okX5_emitWaiting 5 rfl) 0 rfl rfl ?_
    refine J_getR (dk okX5_emitWaiting 6 rfl) kfX5_29 hb.1 rfl ?_
    obtain ⟨s2, t⟩ := t
    refine J_callVi (As := []) (dk okX5_emitWaiting 7 rfl) hb.2.2.2.1 rfl vkX4_top lkX5_117 rfl rfl (Nat.le_of_ble_eq_true rfl) (by decide) (con_X4_top (RuleAt_pile hb) s2 ⟨_, rfl, ?_⟩)
    refine J_callSi (As := [.int (v_X4_top (b + 3) μ)]) (dk okX5_emitWaiting 8 rfl) skX5_rankOf lkX5_106 rfl rfl (Nat.le_of_ble_eq_true rfl) (by decide) (con_X5_rankOf  ⟨_, rfl, ?_⟩)
    refine J_iload_n (dk okX5_emitWaiting 9 rfl) 1 rfl rfl ?_
    refine J_icmp_lt (tgt := 40) (dk okX5_emitWaiting 10 rfl) (by decide) (fun h3 => ?_) (fun h3 => ?_)
    · exact J_sub [] rfl (kx μ (by unfold bd_X5_emitWaiting_2; first | (simp only [if_neg h1, if_pos h3]; done) | (simp only [if_neg h1, if_pos h3]; rfl) | rfl))
    · have t := t h3
      refine J_aload_n (dk okX5_emitWaiting 11 rfl) 0 rfl rfl ?_
      refine J_aload_n (dk okX5_emitWaiting 12 rfl) 0 rfl rfl ?_
      refine J_getR (dk okX5_emitWaiting 13 rfl) kfX5_29 hb.1 rfl ?_
      obtain ⟨s4, t⟩ := t
      refine J_callVi (As := []) (dk okX5_emitWaiting 14 rfl) hb.2.2.2.1 rfl vkX4_pop lkX5_113 rfl rfl (Nat.le_of_ble_eq_true rfl) (by decide) (con_X4_pop (RuleAt_pile hb) s4 ⟨_, rfl, ?_⟩)
      refine J_nm (fun μ5 eμ5 => ?_)
      have t := t μ5 eμ5
      refine J_ineg (dk okX5_emitWaiting 15 rfl) ?_
      have s6 := t
      refine J_callVv (As := [.int (-(v_X4_pop (b + 3) μ))]) (dk okX5_emitWaiting 16 rfl) hb.1 rfl vkX5_emit lkX5_78 rfl rfl (Nat.le_of_ble_eq_true rfl) (by decide) (con_X5_emit hb s6 ⟨rfl, ?_⟩)
      refine J_nm (fun μ7 eμ7 => ?_)
      refine J_iinc (v := (x2 + 1)) (ls' := [(2, _), (0, _), (1, _)]) (dk okX5_emitWaiting 17 rfl) 2 rfl rfl (by decide) rfl ?_
      refine J_goto (tgt := 2) (dk okX5_emitWaiting 18 rfl) (by decide) ?_
      exact J_sub [1, 2, 0] rfl (kb x1 (x2 + 1) μ7 (by subst eμ7 eμ5; unfold bd_X5_emitWaiting_2; first | (simp only [if_neg h1, if_neg h3]; done) | (simp only [if_neg h1, if_neg h3]; rfl) | rfl))
/-- VotingFloor$Rule.emitWaiting(I)V -/
noncomputable def e_X5_emitWaiting (b : Nat) (p0 : Int32) (μ : Mm) : Mm := (let r2 : Mm := whl (fun s : Int32 × Int32 × Mm => bd_X5_emitWaiting_2 b s.1 s.2.1 s.2.2) (fun s : Int32 × Int32 × Mm => s.2.2) FU (p0, 0, μ); r2)
def p_X5_emitWaiting (b : Nat) (p0 : Int32)  (μ : Mm) : Prop := whP (fun s : Int32 × Int32 × Mm => bd_X5_emitWaiting_2 b s.1 s.2.1 s.2.2) (fun s : Int32 × Int32 × Mm => sd_X5_emitWaiting_2 b  s.1 s.2.1 s.2.2) FU (p0, 0, μ)
set_option maxRecDepth 20000 in
set_option maxHeartbeats 4000000 in
theorem con_X5_emitWaiting {E : Ex} {Q : Option Value → Mm → Prop} {b : Nat} {p0 : Int32} {μ : Mm} (hb : RuleAt b) (t : p_X5_emitWaiting b p0  μ) (k : Q none (e_X5_emitWaiting b p0 μ)) : Con E 2 mX5_emitWaiting [rf E b, .int p0] μ Q := by
  refine Con_J (by decide +kernel) (Nat.le_of_ble_eq_true rfl) (fun G => ?_)
  unfold e_X5_emitWaiting at k
  unfold p_X5_emitWaiting at t
  refine J_sub (ls' := [(0, rf E b), (1, .int p0)]) [0, 1] rfl ?_
  refine J_iconst (v := 0) (dk okX5_emitWaiting 0 rfl) (by decide) ?_
  refine J_istore_n (ls' := [(2, _), (0, _), (1, _)]) (dk okX5_emitWaiting 1 rfl) rfl (by decide) rfl ?_
  have s1 := t
  refine J_sub (ls' := [(0, _), (1, _), (2, _)]) [1, 2, 0] rfl ?_
  refine lw_X5_emitWaiting_2 hb s1 (fun r2 er2 => ?_)
  subst er2
  exact J_vret (dk okX5_emitWaiting 19 rfl) rfl k
noncomputable def bd_X5_value_4 (b : Nat) (p0 : Nat) (x2 : Int32) (x3 : Int32) (μ : Mm) : (Int32 × Int32 × Mm) ⊕ (Int32 × Mm) := (if (μ.1 b 1) ≤ x3 then .inr (x2, μ) else (if (Int32.ofNat 41) ≤ x3 then .inr (x2, μ) else (let μ23 : Mm := (if (μ.1 (b + 1) (Int32.toNatClampNeg x3)) < (-7) then (if (μ.1 (b + 1) (Int32.toNatClampNeg x3)) = (-126) then (if x2 ≤ 0 then μ else ((upI μ (b + 2) (Int32.toNatClampNeg (x2 - 1)) (-(μ.1 (b + 2) (Int32.toNatClampNeg (x2 - 1)))))) : Mm) else (if x2 ≤ 1 then μ else ((upI μ (b + 2) (Int32.toNatClampNeg ((x2 + (-1)) - 1)) (v_X5_done (-(μ.1 (b + 1) (Int32.toNatClampNeg x3))) (μ.1 (b + 2) (Int32.toNatClampNeg ((x2 + (-1)) - 1))) (μ.1 (b + 2) (Int32.toNatClampNeg (x2 + (-1))))))) : Mm) : Mm) else (if (Int32.ofNat 41) ≤ x2 then μ else (if (Int32.ofNat 7) ≤ ((-1) - (μ.1 (b + 1) (Int32.toNatClampNeg x3))) then μ else ((upI μ (b + 2) (Int32.toNatClampNeg x2) (if (μ.1 (b + 1) (Int32.toNatClampNeg x3)) < 0 then (μ.1 p0 (Int32.toNatClampNeg ((-1) - (μ.1 (b + 1) (Int32.toNatClampNeg x3))))) else (μ.1 (b + 1) (Int32.toNatClampNeg x3)) : Int32))) : Mm) : Mm) : Mm); .inl ((if (μ.1 (b + 1) (Int32.toNatClampNeg x3)) < (-7) then (if (μ.1 (b + 1) (Int32.toNatClampNeg x3)) = (-126) then x2 else (if x2 ≤ 1 then x2 else (x2 + (-1)) : Int32) : Int32) else (if (Int32.ofNat 41) ≤ x2 then x2 else (if (Int32.ofNat 7) ≤ ((-1) - (μ.1 (b + 1) (Int32.toNatClampNeg x3))) then x2 else (x2 + 1) : Int32) : Int32) : Int32), (x3 + 1), μ23))))
def sd_X5_value_4 (b : Nat) (p0 : Nat)  (x2 : Int32) (x3 : Int32) (μ : Mm) : Prop := (¬ ((μ.1 b 1) ≤ x3) → (¬ ((Int32.ofNat 41) ≤ x3) → (vp_in x3 41) ∧ (((μ.1 (b + 1) (Int32.toNatClampNeg x3)) < (-7) → (((μ.1 (b + 1) (Int32.toNatClampNeg x3)) = (-126) → (¬ (x2 ≤ 0) → (vp_in (x2 - 1) 41) ∧ vp_in (x2 - 1) 41)) ∧ (¬ ((μ.1 (b + 1) (Int32.toNatClampNeg x3)) = (-126)) → (¬ (x2 ≤ 1) → (vp_in ((x2 + (-1)) - 1) 41) ∧ (vp_in (x2 + (-1)) 41) ∧ (p_X5_done (-(μ.1 (b + 1) (Int32.toNatClampNeg x3))) (μ.1 (b + 2) (Int32.toNatClampNeg ((x2 + (-1)) - 1))) (μ.1 (b + 2) (Int32.toNatClampNeg (x2 + (-1))))) ∧ vp_in ((x2 + (-1)) - 1) 41)))) ∧ (¬ ((μ.1 (b + 1) (Int32.toNatClampNeg x3)) < (-7)) → (¬ ((Int32.ofNat 41) ≤ x2) → (¬ ((Int32.ofNat 7) ≤ ((-1) - (μ.1 (b + 1) (Int32.toNatClampNeg x3)))) → (((μ.1 (b + 1) (Int32.toNatClampNeg x3)) < 0 → vp_in ((-1) - (μ.1 (b + 1) (Int32.toNatClampNeg x3))) 7)) ∧ vp_in x2 41))))))
set_option maxRecDepth 20000 in
set_option maxHeartbeats 4000000 in
theorem lw_X5_value_4 {E : Ex} {G : Gx} {Q : Option Value → Mm → Prop} {b : Nat} {p0 : Nat} {x2 : Int32} {x3 : Int32} {μ : Mm} (hb : RuleAt b) (hp0 : dscL[p0]? = some (.inr (.inl (1, 7)))) (p : whP (fun s : Int32 × Int32 × Mm => bd_X5_value_4 b p0 s.1 s.2.1 s.2.2) (fun s : Int32 × Int32 × Mm => sd_X5_value_4 b p0  s.1 s.2.1 s.2.2) FU (x2, x3, μ)) (k : ∀ r : Int32 × Mm, r = whl (fun s : Int32 × Int32 × Mm => bd_X5_value_4 b p0 s.1 s.2.1 s.2.2) (fun s : Int32 × Int32 × Mm => (0, s.2.2)) FU (x2, x3, μ) → J E G 2 mX5_value Q 155 [(0, rf E b), (2, .int (r.1))] [] (r.2)) : J E G 2 mX5_value Q 4 [(0, rf E b), (1, rf E p0), (2, .int x2), (3, .int x3)] [] μ := by
  refine J_whl (f := (fun s : Int32 × Int32 × Mm => bd_X5_value_4 b p0 s.1 s.2.1 s.2.2)) (dd := (fun s : Int32 × Int32 × Mm => (0, s.2.2))) (sd := (fun s : Int32 × Int32 × Mm => sd_X5_value_4 b p0  s.1 s.2.1 s.2.2)) (P := fun s : Int32 × Int32 × Mm => J E G 2 mX5_value Q 4 [(0, rf E b), (1, rf E p0), (2, .int (s.1)), (3, .int (s.2.1))] [] (s.2.2)) (R := fun r : Int32 × Mm => J E G 2 mX5_value Q 155 [(0, rf E b), (2, .int (r.1))] [] (r.2)) ?_ FU (x2, x3, μ) p (k _ rfl)
  clear p k
  rintro ⟨x2, x3, μ⟩ t k1 k2
  dsimp only [sd_X5_value_4] at t
  have kb : ∀ (y2 : Int32) (y3 : Int32) (μ9 : Mm), bd_X5_value_4 b p0 x2 x3 μ = .inl (y2, y3, μ9) → J E G 2 mX5_value Q 4 [(0, rf E b), (1, rf E p0), (2, .int y2), (3, .int y3)] [] μ9 := fun y2 y3 μ9 h => k1 (y2, y3, μ9) h
  have kx : ∀ (y2 : Int32) (μ9 : Mm), bd_X5_value_4 b p0 x2 x3 μ = .inr (y2, μ9) → J E G 2 mX5_value Q 155 [(0, rf E b), (2, .int y2)] [] μ9 := fun y2 μ9 h => k2 (y2, μ9) h
  clear k1 k2
  refine J_iload_n (dk okX5_value 4 rfl) 3 rfl rfl ?_
  refine J_aload_n (dk okX5_value 5 rfl) 0 rfl rfl ?_
  refine J_getI (dk okX5_value 6 rfl) kfX5_15 hb.1 rfl ?_
  refine J_icmp_ge (tgt := 155) (dk okX5_value 7 rfl) (by decide) (fun h1 => ?_) (fun h1 => ?_)
  · exact J_sub [0, 2] rfl (kx x2 μ (by unfold bd_X5_value_4; first | (simp only [if_pos h1]; done) | (simp only [if_pos h1]; rfl) | rfl))
  · have t := t h1
    refine J_iload_n (dk okX5_value 8 rfl) 3 rfl rfl ?_
    refine J_aload_n (dk okX5_value 9 rfl) 0 rfl rfl ?_
    refine J_getR (dk okX5_value 10 rfl) kfX5_11 hb.1 rfl ?_
    refine J_alen (by decide) (by decide) (dk okX5_value 11 rfl) hb.2.1 ?_
    refine J_icmp_ge (tgt := 155) (dk okX5_value 12 rfl) (by decide) (fun h2 => ?_) (fun h2 => ?_)
    · exact J_sub [0, 2] rfl (kx x2 μ (by unfold bd_X5_value_4; first | (simp only [if_neg h1, if_pos h2]; done) | (simp only [if_neg h1, if_pos h2]; rfl) | rfl))
    · have t := t h2
      refine J_aload_n (dk okX5_value 13 rfl) 0 rfl rfl ?_
      refine J_getR (dk okX5_value 14 rfl) kfX5_11 hb.1 rfl ?_
      refine J_iload_n (dk okX5_value 15 rfl) 3 rfl rfl ?_
      obtain ⟨s3, t⟩ := t
      refine J_iald (dk okX5_value 16 rfl) hb.2.1 s3 ?_
      refine J_istore (ls' := [(4, _), (0, _), (1, _), (2, _), (3, _)]) (dk okX5_value 17 rfl) (by decide) rfl ?_
      refine J_iload (dk okX5_value 18 rfl) 0 rfl ?_
      refine J_bipush (v := (-7)) (dk okX5_value 19 rfl) (by decide) ?_
      have K24 : J E G 2 mX5_value Q 149 [(0, rf E b), (1, rf E p0), (2, .int (if (μ.1 (b + 1) (Int32.toNatClampNeg x3)) < (-7) then (if (μ.1 (b + 1) (Int32.toNatClampNeg x3)) = (-126) then x2 else (if x2 ≤ 1 then x2 else (x2 + (-1)) : Int32) : Int32) else (if (Int32.ofNat 41) ≤ x2 then x2 else (if (Int32.ofNat 7) ≤ ((-1) - (μ.1 (b + 1) (Int32.toNatClampNeg x3))) then x2 else (x2 + 1) : Int32) : Int32) : Int32)), (3, .int x3)] [] (if (μ.1 (b + 1) (Int32.toNatClampNeg x3)) < (-7) then (if (μ.1 (b + 1) (Int32.toNatClampNeg x3)) = (-126) then (if x2 ≤ 0 then μ else ((upI μ (b + 2) (Int32.toNatClampNeg (x2 - 1)) (-(μ.1 (b + 2) (Int32.toNatClampNeg (x2 - 1)))))) : Mm) else (if x2 ≤ 1 then μ else ((upI μ (b + 2) (Int32.toNatClampNeg ((x2 + (-1)) - 1)) (v_X5_done (-(μ.1 (b + 1) (Int32.toNatClampNeg x3))) (μ.1 (b + 2) (Int32.toNatClampNeg ((x2 + (-1)) - 1))) (μ.1 (b + 2) (Int32.toNatClampNeg (x2 + (-1))))))) : Mm) : Mm) else (if (Int32.ofNat 41) ≤ x2 then μ else (if (Int32.ofNat 7) ≤ ((-1) - (μ.1 (b + 1) (Int32.toNatClampNeg x3))) then μ else ((upI μ (b + 2) (Int32.toNatClampNeg x2) (if (μ.1 (b + 1) (Int32.toNatClampNeg x3)) < 0 then (μ.1 p0 (Int32.toNatClampNeg ((-1) - (μ.1 (b + 1) (Int32.toNatClampNeg x3))))) else (μ.1 (b + 1) (Int32.toNatClampNeg x3)) : Int32))) : Mm) : Mm) : Mm) := by
        refine J_nm (fun μ23 eμ23 => ?_)
        refine J_iinc (v := (x3 + 1)) (ls' := [(3, _), (0, _), (1, _), (2, _)]) (dk okX5_value 89 rfl) 3 rfl rfl (by decide) rfl ?_
        refine J_goto (tgt := 4) (dk okX5_value 90 rfl) (by decide) ?_
        exact J_sub [1, 2, 3, 0] rfl (kb (if (μ.1 (b + 1) (Int32.toNatClampNeg x3)) < (-7) then (if (μ.1 (b + 1) (Int32.toNatClampNeg x3)) = (-126) then x2 else (if x2 ≤ 1 then x2 else (x2 + (-1)) : Int32) : Int32) else (if (Int32.ofNat 41) ≤ x2 then x2 else (if (Int32.ofNat 7) ≤ ((-1) - (μ.1 (b + 1) (Int32.toNatClampNeg x3))) then x2 else (x2 + 1) : Int32) : Int32) : Int32) (x3 + 1) μ23 (by subst eμ23; unfold bd_X5_value_4; first | (simp only [if_neg h1, if_neg h2]; done) | (simp only [if_neg h1, if_neg h2]; rfl) | rfl))
      refine J_icmp_lt (tgt := 82) (dk okX5_value 20 rfl) (by decide) (fun h4 => ?_) (fun h4 => ?_)
      · have t := t.1 h4
        refine J_iload (dk okX5_value 47 rfl) 0 rfl ?_
        refine J_bipush (v := (-126)) (dk okX5_value 48 rfl) (by decide) ?_
        refine J_icmp_ne (tgt := 113) (dk okX5_value 49 rfl) (by decide) (fun h5 => ?_) (fun h5 => ?_)
        · have t := t.2 h5
          refine J_iload_n (dk okX5_value 66 rfl) 3 rfl rfl ?_
          refine J_iconst (v := 1) (dk okX5_value 67 rfl) (by decide) ?_
          refine J_icmp_le (tgt := 149) (dk okX5_value 68 rfl) (by decide) (fun h10 => ?_) (fun h10 => ?_)
          · refine J_sub (ls' := [(0, _), (1, _), (2, _), (3, _)]) [1, 2, 3, 4] rfl ?_
            (try simp only [if_pos h4, if_neg h5, if_pos h10] at K24 ⊢); exact K24
          · have t := t h10
            refine J_iinc (v := (x2 + (-1))) (ls' := [(2, _), (4, _), (0, _), (1, _), (3, _)]) (dk okX5_value 69 rfl) 3 rfl rfl (by decide) rfl ?_
            refine J_aload_n (dk okX5_value 70 rfl) 2 rfl rfl ?_
            refine J_getR (dk okX5_value 71 rfl) kfX5_23 hb.1 rfl ?_
            refine J_iload_n (dk okX5_value 72 rfl) 0 rfl rfl ?_
            refine J_iconst (v := 1) (dk okX5_value 73 rfl) (by decide) ?_
            refine J_isub (dk okX5_value 74 rfl) ?_
            refine J_iload (dk okX5_value 75 rfl) 1 rfl ?_
            refine J_ineg (dk okX5_value 76 rfl) ?_
            refine J_aload_n (dk okX5_value 77 rfl) 2 rfl rfl ?_
            refine J_getR (dk okX5_value 78 rfl) kfX5_23 hb.1 rfl ?_
            refine J_iload_n (dk okX5_value 79 rfl) 0 rfl rfl ?_
            refine J_iconst (v := 1) (dk okX5_value 80 rfl) (by decide) ?_
            refine J_isub (dk okX5_value 81 rfl) ?_
            obtain ⟨s11, t⟩ := t
            refine J_iald (dk okX5_value 82 rfl) hb.2.2.1 s11 ?_
            refine J_aload_n (dk okX5_value 83 rfl) 2 rfl rfl ?_
            refine J_getR (dk okX5_value 84 rfl) kfX5_23 hb.1 rfl ?_
            refine J_iload_n (dk okX5_value 85 rfl) 0 rfl rfl ?_
            obtain ⟨s12, t⟩ := t
            refine J_iald (dk okX5_value 86 rfl) hb.2.2.1 s12 ?_
            obtain ⟨s13, t⟩ := t
            refine J_callSi (As := [.int (-(μ.1 (b + 1) (Int32.toNatClampNeg x3))), .int (μ.1 (b + 2) (Int32.toNatClampNeg ((x2 + (-1)) - 1))), .int (μ.1 (b + 2) (Int32.toNatClampNeg (x2 + (-1))))]) (dk okX5_value 87 rfl) skX5_done lkX5_120 rfl rfl (Nat.le_of_ble_eq_true rfl) (by decide) (con_X5_done s13 ⟨_, rfl, ?_⟩)
            have s14 := t
            refine J_iast (dk okX5_value 88 rfl) hb.2.2.1 s14 ?_
            refine J_nm (fun μ15 eμ15 => ?_)
            subst eμ15
            refine J_sub (ls' := [(0, _), (1, _), (2, _), (3, _)]) [2, 3, 0, 4] rfl ?_
            (try simp only [if_pos h4, if_neg h5, if_neg h10] at K24 ⊢); exact K24
        · have t := t.1 h5
          refine J_iload_n (dk okX5_value 50 rfl) 3 rfl rfl ?_
          refine J_if_le (tgt := 149) (dk okX5_value 51 rfl) (by decide) (fun h6 => ?_) (fun h6 => ?_)
          · refine J_sub (ls' := [(0, _), (1, _), (2, _), (3, _)]) [1, 2, 3, 4] rfl ?_
            (try simp only [if_pos h4, if_pos h5, if_pos h6] at K24 ⊢); exact K24
          · have t := t h6
            refine J_aload_n (dk okX5_value 52 rfl) 1 rfl rfl ?_
            refine J_getR (dk okX5_value 53 rfl) kfX5_23 hb.1 rfl ?_
            refine J_iload_n (dk okX5_value 54 rfl) 3 rfl rfl ?_
            refine J_iconst (v := 1) (dk okX5_value 55 rfl) (by decide) ?_
            refine J_isub (dk okX5_value 56 rfl) ?_
            refine J_aload_n (dk okX5_value 57 rfl) 1 rfl rfl ?_
            refine J_getR (dk okX5_value 58 rfl) kfX5_23 hb.1 rfl ?_
            refine J_iload_n (dk okX5_value 59 rfl) 3 rfl rfl ?_
            refine J_iconst (v := 1) (dk okX5_value 60 rfl) (by decide) ?_
            refine J_isub (dk okX5_value 61 rfl) ?_
            obtain ⟨s7, t⟩ := t
            refine J_iald (dk okX5_value 62 rfl) hb.2.2.1 s7 ?_
            refine J_ineg (dk okX5_value 63 rfl) ?_
            have s8 := t
            refine J_iast (dk okX5_value 64 rfl) hb.2.2.1 s8 ?_
            refine J_nm (fun μ9 eμ9 => ?_)
            refine J_goto (tgt := 149) (dk okX5_value 65 rfl) (by decide) ?_
            subst eμ9
            refine J_sub (ls' := [(0, _), (1, _), (2, _), (3, _)]) [1, 2, 3, 4] rfl ?_
            (try simp only [if_pos h4, if_pos h5, if_neg h6] at K24 ⊢); exact K24
      · have t := t.2 h4
        refine J_iload_n (dk okX5_value 21 rfl) 3 rfl rfl ?_
        refine J_aload_n (dk okX5_value 22 rfl) 1 rfl rfl ?_
        refine J_getR (dk okX5_value 23 rfl) kfX5_23 hb.1 rfl ?_
        refine J_alen (by decide) (by decide) (dk okX5_value 24 rfl) hb.2.2.1 ?_
        refine J_icmp_ge (tgt := 149) (dk okX5_value 25 rfl) (by decide) (fun h16 => ?_) (fun h16 => ?_)
        · refine J_sub (ls' := [(0, _), (1, _), (2, _), (3, _)]) [1, 2, 3, 4] rfl ?_
          (try simp only [if_neg h4, if_pos h16] at K24 ⊢); exact K24
        · have t := t h16
          refine J_iconst (v := (-1)) (dk okX5_value 26 rfl) (by decide) ?_
          refine J_iload (dk okX5_value 27 rfl) 0 rfl ?_
          refine J_isub (dk okX5_value 28 rfl) ?_
          refine J_aload_n (dk okX5_value 29 rfl) 2 rfl rfl ?_
          refine J_alen (by decide) (by decide) (dk okX5_value 30 rfl) hp0 ?_
          refine J_icmp_ge (tgt := 149) (dk okX5_value 31 rfl) (by decide) (fun h17 => ?_) (fun h17 => ?_)
          · refine J_sub (ls' := [(0, _), (1, _), (2, _), (3, _)]) [1, 2, 3, 4] rfl ?_
            (try simp only [if_neg h4, if_neg h16, if_pos h17] at K24 ⊢); exact K24
          · have t := t h17
            refine J_aload_n (dk okX5_value 32 rfl) 1 rfl rfl ?_
            refine J_getR (dk okX5_value 33 rfl) kfX5_23 hb.1 rfl ?_
            refine J_iload_n (dk okX5_value 34 rfl) 3 rfl rfl ?_
            refine J_iload (dk okX5_value 35 rfl) 0 rfl ?_
            obtain ⟨t9, t⟩ := t
            have K20 : J E G 2 mX5_value Q 75 [(0, rf E b), (1, rf E p0), (2, .int x2), (3, .int x3)] [.int (if (μ.1 (b + 1) (Int32.toNatClampNeg x3)) < 0 then (μ.1 p0 (Int32.toNatClampNeg ((-1) - (μ.1 (b + 1) (Int32.toNatClampNeg x3))))) else (μ.1 (b + 1) (Int32.toNatClampNeg x3)) : Int32), .int x2, rf E (b + 2)] μ := by
              have s21 := t
              refine J_iast (dk okX5_value 44 rfl) hb.2.2.1 s21 ?_
              refine J_nm (fun μ22 eμ22 => ?_)
              refine J_iinc (v := (x2 + 1)) (ls' := [(2, _), (0, _), (1, _), (3, _)]) (dk okX5_value 45 rfl) 2 rfl rfl (by decide) rfl ?_
              refine J_goto (tgt := 149) (dk okX5_value 46 rfl) (by decide) ?_
              subst eμ22
              refine J_sub (ls' := [(0, _), (1, _), (2, _), (3, _)]) [1, 2, 0, 3] rfl ?_
              (try simp only [if_neg h4, if_neg h16, if_neg h17] at K24 ⊢); exact K24
            have t := t9
            refine J_if_lt (tgt := 69) (dk okX5_value 36 rfl) (by decide) (fun h18 => ?_) (fun h18 => ?_)
            · have t := t h18
              refine J_aload_n (dk okX5_value 39 rfl) 2 rfl rfl ?_
              refine J_iconst (v := (-1)) (dk okX5_value 40 rfl) (by decide) ?_
              refine J_iload (dk okX5_value 41 rfl) 0 rfl ?_
              refine J_isub (dk okX5_value 42 rfl) ?_
              have s19 := t
              refine J_iald (dk okX5_value 43 rfl) hp0 s19 ?_
              refine J_sub (ls' := [(0, _), (1, _), (2, _), (3, _)]) [1, 2, 3, 4] rfl ?_
              (try simp only [if_pos h18] at K20 ⊢); exact K20
            · refine J_iload (dk okX5_value 37 rfl) 0 rfl ?_
              refine J_goto (tgt := 75) (dk okX5_value 38 rfl) (by decide) ?_
              refine J_sub (ls' := [(0, _), (1, _), (2, _), (3, _)]) [1, 2, 3, 4] rfl ?_
              (try simp only [if_neg h18] at K20 ⊢); exact K20
/-- VotingFloor$Rule.value([I)I -/
noncomputable def v_X5_value (b : Nat) (p0 : Nat) (μ : Mm) : Int32 := (let r2 : Int32 × Mm := whl (fun s : Int32 × Int32 × Mm => bd_X5_value_4 b p0 s.1 s.2.1 s.2.2) (fun s : Int32 × Int32 × Mm => (0, s.2.2)) FU (0, 0, μ); (if (r2.1) ≤ 0 then 0 else ((r2.2).1 (b + 2) (Int32.toNatClampNeg ((r2.1) - 1))) : Int32))
noncomputable def e_X5_value (b : Nat) (p0 : Nat) (μ : Mm) : Mm := (let r2 : Int32 × Mm := whl (fun s : Int32 × Int32 × Mm => bd_X5_value_4 b p0 s.1 s.2.1 s.2.2) (fun s : Int32 × Int32 × Mm => (0, s.2.2)) FU (0, 0, μ); (r2.2))
def p_X5_value (b : Nat) (p0 : Nat)  (μ : Mm) : Prop := (whP (fun s : Int32 × Int32 × Mm => bd_X5_value_4 b p0 s.1 s.2.1 s.2.2) (fun s : Int32 × Int32 × Mm => sd_X5_value_4 b p0  s.1 s.2.1 s.2.2) FU (0, 0, μ)) ∧ (∀ r2 : Int32 × Mm, r2 = whl (fun s : Int32 × Int32 × Mm => bd_X5_value_4 b p0 s.1 s.2.1 s.2.2) (fun s : Int32 × Int32 × Mm => (0, s.2.2)) FU (0, 0, μ) → (¬ ((r2.1) ≤ 0) → vp_in ((r2.1) - 1) 41))
set_option maxRecDepth 20000 in
set_option maxHeartbeats 4000000 in
theorem con_X5_value {E : Ex} {Q : Option Value → Mm → Prop} {b : Nat} {p0 : Nat} {μ : Mm} (hb : RuleAt b) (hp0 : dscL[p0]? = some (.inr (.inl (1, 7)))) (t : p_X5_value b p0  μ) (k : Q (some (.int (v_X5_value b p0 μ))) (e_X5_value b p0 μ)) : Con E 2 mX5_value [rf E b, rf E p0] μ Q := by
  refine Con_J (by decide +kernel) (Nat.le_of_ble_eq_true rfl) (fun G => ?_)
  unfold v_X5_value e_X5_value at k
  unfold p_X5_value at t
  refine J_sub (ls' := [(0, rf E b), (1, rf E p0)]) [0, 1] rfl ?_
  refine J_iconst (v := 0) (dk okX5_value 0 rfl) (by decide) ?_
  refine J_istore_n (ls' := [(2, _), (0, _), (1, _)]) (dk okX5_value 1 rfl) rfl (by decide) rfl ?_
  refine J_iconst (v := 0) (dk okX5_value 2 rfl) (by decide) ?_
  refine J_istore_n (ls' := [(3, _), (2, _), (0, _), (1, _)]) (dk okX5_value 3 rfl) rfl (by decide) rfl ?_
  obtain ⟨s1, t⟩ := t
  refine J_sub (ls' := [(0, _), (1, _), (2, _), (3, _)]) [2, 3, 1, 0] rfl ?_
  refine lw_X5_value_4 hb hp0 s1 (fun r2 er2 => ?_)
  have t := t r2 er2
  refine J_iload_n (dk okX5_value 91 rfl) 1 rfl rfl ?_
  have K5 : J E G 2 mX5_value Q 171 [] [.int (if (r2.1) ≤ 0 then 0 else ((r2.2).1 (b + 2) (Int32.toNatClampNeg ((r2.1) - 1))) : Int32)] (r2.2) := by
    subst er2
    exact J_iret (dk okX5_value 101 rfl) rfl k
  refine J_if_le (tgt := 170) (dk okX5_value 92 rfl) (by decide) (fun h3 => ?_) (fun h3 => ?_)
  · refine J_iconst (v := 0) (dk okX5_value 100 rfl) (by decide) ?_
    refine J_sub (ls' := []) [] rfl ?_
    (try simp only [if_pos h3] at K5 ⊢); exact K5
  · have t := t h3
    refine J_aload_n (dk okX5_value 93 rfl) 0 rfl rfl ?_
    refine J_getR (dk okX5_value 94 rfl) kfX5_23 hb.1 rfl ?_
    refine J_iload_n (dk okX5_value 95 rfl) 1 rfl rfl ?_
    refine J_iconst (v := 1) (dk okX5_value 96 rfl) (by decide) ?_
    refine J_isub (dk okX5_value 97 rfl) ?_
    have s4 := t
    refine J_iald (dk okX5_value 98 rfl) hb.2.2.1 s4 ?_
    refine J_goto (tgt := 171) (dk okX5_value 99 rfl) (by decide) ?_
    refine J_sub (ls' := []) [] rfl ?_
    (try simp only [if_neg h3] at K5 ⊢); exact K5
noncomputable def bd_X6_latest_4  (μ : Mm) (x1 : Int32) (x2 : Int32) : (Int32 × Int32) ⊕ (Int32) := (if (μ.1 38 3) ≤ x2 then .inr x1 else .inl ((if x1 < (μ.1 40 (Int32.toNatClampNeg x2)) then (μ.1 40 (Int32.toNatClampNeg x2)) else x1), (x2 + 1)))
def sd_X6_latest_4   (μ : Mm) (x1 : Int32) (x2 : Int32) : Prop := (¬ ((μ.1 38 3) ≤ x2) → vp_in x2 10)
set_option maxRecDepth 20000 in
set_option maxHeartbeats 4000000 in
theorem lw_X6_latest_4 {E : Ex} {G : Gx} {Q : Option Value → Mm → Prop} {x1 : Int32} {x2 : Int32} {μ : Mm}  (p : whP (fun s : Int32 × Int32 => bd_X6_latest_4  μ s.1 s.2) (fun s : Int32 × Int32 => sd_X6_latest_4   μ s.1 s.2) FU (x1, x2)) (k : ∀ r : Int32, r = whl (fun s : Int32 × Int32 => bd_X6_latest_4  μ s.1 s.2) (fun _ : Int32 × Int32 => 0) FU (x1, x2) → J E G 2 mX6_latest Q 29 [(1, .int r)] [] μ) : J E G 2 mX6_latest Q 4 [(0, rf E 38), (1, .int x1), (2, .int x2)] [] μ := by
  refine J_whl (f := (fun s : Int32 × Int32 => bd_X6_latest_4  μ s.1 s.2)) (dd := (fun _ : Int32 × Int32 => 0)) (sd := (fun s : Int32 × Int32 => sd_X6_latest_4   μ s.1 s.2)) (P := fun s : Int32 × Int32 => J E G 2 mX6_latest Q 4 [(0, rf E 38), (1, .int (s.1)), (2, .int (s.2))] [] (μ)) (R := fun r : Int32 => J E G 2 mX6_latest Q 29 [(1, .int r)] [] μ) ?_ FU (x1, x2) p (k _ rfl)
  clear p k
  rintro ⟨x1, x2⟩ t k1 k2
  dsimp only [sd_X6_latest_4] at t
  have kb : ∀ (y1 : Int32) (y2 : Int32) , bd_X6_latest_4  μ x1 x2 = .inl (y1, y2) → J E G 2 mX6_latest Q 4 [(0, rf E 38), (1, .int y1), (2, .int y2)] [] μ := fun y1 y2  h => k1 (y1, y2) h
  have kx : ∀ (y1 : Int32) , bd_X6_latest_4  μ x1 x2 = .inr y1 → J E G 2 mX6_latest Q 29 [(1, .int y1)] [] μ := fun y1  h => k2 y1 h
  clear k1 k2
  refine J_iload_n (dk okX6_latest 4 rfl) 2 rfl rfl ?_
  refine J_aload_n (dk okX6_latest 5 rfl) 0 rfl rfl ?_
  refine J_getI (dk okX6_latest 6 rfl) kfX6_19 ds_38 rfl ?_
  refine J_icmp_ge (tgt := 29) (dk okX6_latest 7 rfl) (by decide) (fun h1 => ?_) (fun h1 => ?_)
  · exact J_sub [1] rfl (kx x1 (by unfold bd_X6_latest_4; first | (simp only [if_pos h1]; done) | (simp only [if_pos h1]; rfl) | rfl))
  · have t := t h1
    refine J_iload_n (dk okX6_latest 8 rfl) 1 rfl rfl ?_
    refine J_aload_n (dk okX6_latest 9 rfl) 0 rfl rfl ?_
    refine J_getR (dk okX6_latest 10 rfl) kfX6_13 ds_38 rfl ?_
    refine J_iload_n (dk okX6_latest 11 rfl) 2 rfl rfl ?_
    have s2 := t
    refine J_iald (dk okX6_latest 12 rfl) ds_40 s2 ?_
    refine J_mmax (dk okX6_latest 13 rfl) lkX6_23 mk_max_s mk_Math mk_max_c (by decide) (Nat.le_of_ble_eq_true rfl) ?_
    refine J_istore_n (ls' := [(1, _), (0, _), (2, _)]) (dk okX6_latest 14 rfl) rfl (by decide) rfl ?_
    refine J_iinc (v := (x2 + 1)) (ls' := [(2, _), (1, _), (0, _)]) (dk okX6_latest 15 rfl) 2 rfl rfl (by decide) rfl ?_
    refine J_goto (tgt := 4) (dk okX6_latest 16 rfl) (by decide) ?_
    exact J_sub [2, 1, 0] rfl (kb (if x1 < (μ.1 40 (Int32.toNatClampNeg x2)) then (μ.1 40 (Int32.toNatClampNeg x2)) else x1) (x2 + 1) (by unfold bd_X6_latest_4; first | (simp only [if_neg h1]; done) | (simp only [if_neg h1]; rfl) | rfl))
/-- VotingFloor$Sightings.latest()I -/
noncomputable def v_X6_latest  (μ : Mm) : Int32 := (let r2 : Int32 := whl (fun s : Int32 × Int32 => bd_X6_latest_4  μ s.1 s.2) (fun _ : Int32 × Int32 => 0) FU (0, 0); r2)
def p_X6_latest   (μ : Mm) : Prop := whP (fun s : Int32 × Int32 => bd_X6_latest_4  μ s.1 s.2) (fun s : Int32 × Int32 => sd_X6_latest_4   μ s.1 s.2) FU (0, 0)
set_option maxRecDepth 20000 in
set_option maxHeartbeats 4000000 in
theorem con_X6_latest {E : Ex} {Q : Option Value → Mm → Prop} {μ : Mm} (t : p_X6_latest   μ) (k : Q (some (.int (v_X6_latest  μ))) μ) : Con E 2 mX6_latest [rf E 38] μ Q := by
  refine Con_J (by decide +kernel) (Nat.le_of_ble_eq_true rfl) (fun G => ?_)
  unfold v_X6_latest at k
  unfold p_X6_latest at t
  refine J_sub (ls' := [(0, rf E 38)]) [0] rfl ?_
  refine J_iconst (v := 0) (dk okX6_latest 0 rfl) (by decide) ?_
  refine J_istore_n (ls' := [(1, _), (0, _)]) (dk okX6_latest 1 rfl) rfl (by decide) rfl ?_
  refine J_iconst (v := 0) (dk okX6_latest 2 rfl) (by decide) ?_
  refine J_istore_n (ls' := [(2, _), (1, _), (0, _)]) (dk okX6_latest 3 rfl) rfl (by decide) rfl ?_
  have s1 := t
  refine J_sub (ls' := [(0, _), (1, _), (2, _)]) [2, 1, 0] rfl ?_
  refine lw_X6_latest_4  s1 (fun r2 er2 => ?_)
  refine J_iload_n (dk okX6_latest 17 rfl) 0 rfl rfl ?_
  subst er2
  exact J_iret (dk okX6_latest 18 rfl) rfl k
noncomputable def bd_X7_most_21  (μ : Mm) (x1 : Int32) (x3 : Int32) (x4 : Int32) (x5 : Int32) (x6 : Int32) : (Int32 × Int32 × Int32 × Int32 × Int32) ⊕ (Int32 × Int32 × Int32 × Int32) := (if 7 ≤ x6 then .inr (x1, x3, x4, x5) else .inl (x1, (if (μ.1 36 (Int32.toNatClampNeg x6)) = x5 then (x3 + ((if (μ.1 37 (Int32.toNatClampNeg x6)) < x4 then (μ.1 37 (Int32.toNatClampNeg x6)) else x4) * x5)) else x3 : Int32), (if (μ.1 36 (Int32.toNatClampNeg x6)) = x5 then (x4 - (if (μ.1 37 (Int32.toNatClampNeg x6)) < x4 then (μ.1 37 (Int32.toNatClampNeg x6)) else x4)) else x4 : Int32), x5, (x6 + 1)))
def sd_X7_most_21   (μ : Mm) (x1 : Int32) (x3 : Int32) (x4 : Int32) (x5 : Int32) (x6 : Int32) : Prop := (¬ (7 ≤ x6) → (vp_in x6 7) ∧ ((μ.1 36 (Int32.toNatClampNeg x6)) = x5 → vp_in x6 7))
set_option maxRecDepth 20000 in
set_option maxHeartbeats 4000000 in
theorem lw_X7_most_21 {E : Ex} {G : Gx} {Q : Option Value → Mm → Prop} {x1 : Int32} {x3 : Int32} {x4 : Int32} {x5 : Int32} {x6 : Int32} {μ : Mm}  (p : whP (fun s : Int32 × Int32 × Int32 × Int32 × Int32 => bd_X7_most_21  μ s.1 s.2.1 s.2.2.1 s.2.2.2.1 s.2.2.2.2) (fun s : Int32 × Int32 × Int32 × Int32 × Int32 => sd_X7_most_21   μ s.1 s.2.1 s.2.2.1 s.2.2.2.1 s.2.2.2.2) FU (x1, x3, x4, x5, x6)) (k : ∀ r : Int32 × Int32 × Int32 × Int32, r = whl (fun s : Int32 × Int32 × Int32 × Int32 × Int32 => bd_X7_most_21  μ s.1 s.2.1 s.2.2.1 s.2.2.2.1 s.2.2.2.2) (fun _ : Int32 × Int32 × Int32 × Int32 × Int32 => (0, 0, 0, 0)) FU (x1, x3, x4, x5, x6) → J E G 2 mX7_most Q 75 [(0, rf E 35), (1, .int (r.1)), (3, .int (r.2.1)), (4, .int (r.2.2.1)), (5, .int (r.2.2.2))] [] μ) : J E G 2 mX7_most Q 21 [(0, rf E 35), (1, .int x1), (3, .int x3), (4, .int x4), (5, .int x5), (6, .int x6)] [] μ := by
  refine J_whl (f := (fun s : Int32 × Int32 × Int32 × Int32 × Int32 => bd_X7_most_21  μ s.1 s.2.1 s.2.2.1 s.2.2.2.1 s.2.2.2.2)) (dd := (fun _ : Int32 × Int32 × Int32 × Int32 × Int32 => (0, 0, 0, 0))) (sd := (fun s : Int32 × Int32 × Int32 × Int32 × Int32 => sd_X7_most_21   μ s.1 s.2.1 s.2.2.1 s.2.2.2.1 s.2.2.2.2)) (P := fun s : Int32 × Int32 × Int32 × Int32 × Int32 => J E G 2 mX7_most Q 21 [(0, rf E 35), (1, .int (s.1)), (3, .int (s.2.1)), (4, .int (s.2.2.1)), (5, .int (s.2.2.2.1)), (6, .int (s.2.2.2.2))] [] (μ)) (R := fun r : Int32 × Int32 × Int32 × Int32 => J E G 2 mX7_most Q 75 [(0, rf E 35), (1, .int (r.1)), (3, .int (r.2.1)), (4, .int (r.2.2.1)), (5, .int (r.2.2.2))] [] μ) ?_ FU (x1, x3, x4, x5, x6) p (k _ rfl)
  clear p k
  rintro ⟨x1, x3, x4, x5, x6⟩ t k1 k2
  dsimp only [sd_X7_most_21] at t
  have kb : ∀ (y1 : Int32) (y3 : Int32) (y4 : Int32) (y5 : Int32) (y6 : Int32) , bd_X7_most_21  μ x1 x3 x4 x5 x6 = .inl (y1, y3, y4, y5, y6) → J E G 2 mX7_most Q 21 [(0, rf E 35), (1, .int y1), (3, .int y3), (4, .int y4), (5, .int y5), (6, .int y6)] [] μ := fun y1 y3 y4 y5 y6  h => k1 (y1, y3, y4, y5, y6) h
  have kx : ∀ (y1 : Int32) (y3 : Int32) (y4 : Int32) (y5 : Int32) , bd_X7_most_21  μ x1 x3 x4 x5 x6 = .inr (y1, y3, y4, y5) → J E G 2 mX7_most Q 75 [(0, rf E 35), (1, .int y1), (3, .int y3), (4, .int y4), (5, .int y5)] [] μ := fun y1 y3 y4 y5  h => k2 (y1, y3, y4, y5) h
  clear k1 k2
  refine J_iload (dk okX7_most 12 rfl) 5 rfl ?_
  refine J_bipush (v := 7) (dk okX7_most 13 rfl) (by decide) ?_
  refine J_icmp_ge (tgt := 75) (dk okX7_most 14 rfl) (by decide) (fun h1 => ?_) (fun h1 => ?_)
  · exact J_sub [0, 1, 2, 3, 4] rfl (kx x1 x3 x4 x5 (by unfold bd_X7_most_21; first | (simp only [if_pos h1]; done) | (simp only [if_pos h1]; rfl) | rfl))
  · have t := t h1
    refine J_aload_n (dk okX7_most 15 rfl) 0 rfl rfl ?_
    refine J_getR (dk okX7_most 16 rfl) kfX7_9 ds_35 rfl ?_
    refine J_iload (dk okX7_most 17 rfl) 5 rfl ?_
    obtain ⟨s2, t⟩ := t
    refine J_iald (dk okX7_most 18 rfl) ds_36 s2 ?_
    refine J_iload (dk okX7_most 19 rfl) 4 rfl ?_
    have K5 : J E G 2 mX7_most Q 69 [(0, rf E 35), (1, .int x1), (3, .int (if (μ.1 36 (Int32.toNatClampNeg x6)) = x5 then (x3 + ((if (μ.1 37 (Int32.toNatClampNeg x6)) < x4 then (μ.1 37 (Int32.toNatClampNeg x6)) else x4) * x5)) else x3 : Int32)), (4, .int (if (μ.1 36 (Int32.toNatClampNeg x6)) = x5 then (x4 - (if (μ.1 37 (Int32.toNatClampNeg x6)) < x4 then (μ.1 37 (Int32.toNatClampNeg x6)) else x4)) else x4 : Int32)), (5, .int x5), (6, .int x6)] [] μ := by
      refine J_iinc (v := (x6 + 1)) (ls' := [(6, _), (0, _), (1, _), (3, _), (4, _), (5, _)]) (dk okX7_most 38 rfl) 5 rfl rfl (by decide) rfl ?_
      refine J_goto (tgt := 21) (dk okX7_most 39 rfl) (by decide) ?_
      exact J_sub [1, 2, 3, 4, 5, 0] rfl (kb x1 (if (μ.1 36 (Int32.toNatClampNeg x6)) = x5 then (x3 + ((if (μ.1 37 (Int32.toNatClampNeg x6)) < x4 then (μ.1 37 (Int32.toNatClampNeg x6)) else x4) * x5)) else x3 : Int32) (if (μ.1 36 (Int32.toNatClampNeg x6)) = x5 then (x4 - (if (μ.1 37 (Int32.toNatClampNeg x6)) < x4 then (μ.1 37 (Int32.toNatClampNeg x6)) else x4)) else x4 : Int32) x5 (x6 + 1) (by unfold bd_X7_most_21; first | (simp only [if_neg h1]; done) | (simp only [if_neg h1]; rfl) | rfl))
    refine J_icmp_ne (tgt := 69) (dk okX7_most 20 rfl) (by decide) (fun h3 => ?_) (fun h3 => ?_)
    · refine J_sub (ls' := [(0, _), (1, _), (3, _), (4, _), (5, _), (6, _)]) [0, 1, 2, 3, 4, 5] rfl ?_
      (try simp only [if_neg h3] at K5 ⊢); exact K5
    · have t := t h3
      refine J_iload (dk okX7_most 21 rfl) 3 rfl ?_
      refine J_aload_n (dk okX7_most 22 rfl) 0 rfl rfl ?_
      refine J_getR (dk okX7_most 23 rfl) kfX7_15 ds_35 rfl ?_
      refine J_iload (dk okX7_most 24 rfl) 5 rfl ?_
      have s4 := t
      refine J_iald (dk okX7_most 25 rfl) ds_37 s4 ?_
      refine J_mmin (dk okX7_most 26 rfl) lkX7_36 mk_min_s mk_Math mk_min_c (by decide) (Nat.le_of_ble_eq_true rfl) ?_
      refine J_istore (ls' := [(7, _), (0, _), (1, _), (3, _), (4, _), (5, _), (6, _)]) (dk okX7_most 27 rfl) (by decide) rfl ?_
      refine J_iload_n (dk okX7_most 28 rfl) 3 rfl rfl ?_
      refine J_iload (dk okX7_most 29 rfl) 0 rfl ?_
      refine J_iload (dk okX7_most 30 rfl) 5 rfl ?_
      refine J_imul (dk okX7_most 31 rfl) ?_
      refine J_iadd (dk okX7_most 32 rfl) ?_
      refine J_istore_n (ls' := [(3, _), (7, _), (0, _), (1, _), (4, _), (5, _), (6, _)]) (dk okX7_most 33 rfl) rfl (by decide) rfl ?_
      refine J_iload (dk okX7_most 34 rfl) 4 rfl ?_
      refine J_iload (dk okX7_most 35 rfl) 1 rfl ?_
      refine J_isub (dk okX7_most 36 rfl) ?_
      refine J_istore (ls' := [(4, _), (3, _), (7, _), (0, _), (1, _), (5, _), (6, _)]) (dk okX7_most 37 rfl) (by decide) rfl ?_
      refine J_sub (ls' := [(0, _), (1, _), (3, _), (4, _), (5, _), (6, _)]) [3, 4, 1, 0, 5, 6] rfl ?_
      (try simp only [if_pos h3] at K5 ⊢); exact K5
noncomputable def bd_X7_most_9  (μ : Mm) (x1 : Int32) (x3 : Int32) (x4 : Int32) (x5 : Int32) : (Int32 × Int32 × Int32 × Int32) ⊕ (Int32) := (if x5 ≤ 0 then .inr x3 else (let r3 : Int32 × Int32 × Int32 × Int32 := whl (fun s : Int32 × Int32 × Int32 × Int32 × Int32 => bd_X7_most_21  μ s.1 s.2.1 s.2.2.1 s.2.2.2.1 s.2.2.2.2) (fun _ : Int32 × Int32 × Int32 × Int32 × Int32 => (0, 0, 0, 0)) FU (x1, x3, x4, x5, (if 0 < x1 then x1 else 0)); .inl ((r3.1), (r3.2.1), (r3.2.2.1), ((r3.2.2.2) + (-1)))))
def sd_X7_most_9   (μ : Mm) (x1 : Int32) (x3 : Int32) (x4 : Int32) (x5 : Int32) : Prop := (¬ (x5 ≤ 0) → whP (fun s : Int32 × Int32 × Int32 × Int32 × Int32 => bd_X7_most_21  μ s.1 s.2.1 s.2.2.1 s.2.2.2.1 s.2.2.2.2) (fun s : Int32 × Int32 × Int32 × Int32 × Int32 => sd_X7_most_21   μ s.1 s.2.1 s.2.2.1 s.2.2.2.1 s.2.2.2.2) FU (x1, x3, x4, x5, (if 0 < x1 then x1 else 0)))
set_option maxRecDepth 20000 in
set_option maxHeartbeats 4000000 in
theorem lw_X7_most_9 {E : Ex} {G : Gx} {Q : Option Value → Mm → Prop} {x1 : Int32} {x3 : Int32} {x4 : Int32} {x5 : Int32} {μ : Mm}  (p : whP (fun s : Int32 × Int32 × Int32 × Int32 => bd_X7_most_9  μ s.1 s.2.1 s.2.2.1 s.2.2.2) (fun s : Int32 × Int32 × Int32 × Int32 => sd_X7_most_9   μ s.1 s.2.1 s.2.2.1 s.2.2.2) FU (x1, x3, x4, x5)) (k : ∀ r : Int32, r = whl (fun s : Int32 × Int32 × Int32 × Int32 => bd_X7_most_9  μ s.1 s.2.1 s.2.2.1 s.2.2.2) (fun _ : Int32 × Int32 × Int32 × Int32 => 0) FU (x1, x3, x4, x5) → J E G 2 mX7_most Q 81 [(3, .int r)] [] μ) : J E G 2 mX7_most Q 9 [(0, rf E 35), (1, .int x1), (3, .int x3), (4, .int x4), (5, .int x5)] [] μ := by
  refine J_whl (f := (fun s : Int32 × Int32 × Int32 × Int32 => bd_X7_most_9  μ s.1 s.2.1 s.2.2.1 s.2.2.2)) (dd := (fun _ : Int32 × Int32 × Int32 × Int32 => 0)) (sd := (fun s : Int32 × Int32 × Int32 × Int32 => sd_X7_most_9   μ s.1 s.2.1 s.2.2.1 s.2.2.2)) (P := fun s : Int32 × Int32 × Int32 × Int32 => J E G 2 mX7_most Q 9 [(0, rf E 35), (1, .int (s.1)), (3, .int (s.2.1)), (4, .int (s.2.2.1)), (5, .int (s.2.2.2))] [] (μ)) (R := fun r : Int32 => J E G 2 mX7_most Q 81 [(3, .int r)] [] μ) ?_ FU (x1, x3, x4, x5) p (k _ rfl)
  clear p k
  rintro ⟨x1, x3, x4, x5⟩ t k1 k2
  dsimp only [sd_X7_most_9] at t
  have kb : ∀ (y1 : Int32) (y3 : Int32) (y4 : Int32) (y5 : Int32) , bd_X7_most_9  μ x1 x3 x4 x5 = .inl (y1, y3, y4, y5) → J E G 2 mX7_most Q 9 [(0, rf E 35), (1, .int y1), (3, .int y3), (4, .int y4), (5, .int y5)] [] μ := fun y1 y3 y4 y5  h => k1 (y1, y3, y4, y5) h
  have kx : ∀ (y3 : Int32) , bd_X7_most_9  μ x1 x3 x4 x5 = .inr y3 → J E G 2 mX7_most Q 81 [(3, .int y3)] [] μ := fun y3  h => k2 y3 h
  clear k1 k2
  refine J_iload (dk okX7_most 6 rfl) 4 rfl ?_
  refine J_if_le (tgt := 81) (dk okX7_most 7 rfl) (by decide) (fun h1 => ?_) (fun h1 => ?_)
  · exact J_sub [2] rfl (kx x3 (by unfold bd_X7_most_9; first | (simp only [if_pos h1]; done) | (simp only [if_pos h1]; rfl) | rfl))
  · have t := t h1
    refine J_iconst (v := 0) (dk okX7_most 8 rfl) (by decide) ?_
    refine J_iload_n (dk okX7_most 9 rfl) 1 rfl rfl ?_
    refine J_mmax (dk okX7_most 10 rfl) lkX7_30 mk_max_s mk_Math mk_max_c (by decide) (Nat.le_of_ble_eq_true rfl) ?_
    refine J_istore (ls' := [(6, _), (0, _), (1, _), (3, _), (4, _), (5, _)]) (dk okX7_most 11 rfl) (by decide) rfl ?_
    have s2 := t
    refine J_sub (ls' := [(0, _), (1, _), (3, _), (4, _), (5, _), (6, _)]) [1, 2, 3, 4, 5, 0] rfl ?_
    refine lw_X7_most_21  s2 (fun r3 er3 => ?_)
    refine J_iinc (v := ((r3.2.2.2) + (-1))) (ls' := [(5, _), (0, _), (1, _), (3, _), (4, _)]) (dk okX7_most 40 rfl) 4 rfl rfl (by decide) rfl ?_
    refine J_goto (tgt := 9) (dk okX7_most 41 rfl) (by decide) ?_
    exact J_sub [1, 2, 3, 4, 0] rfl (kb (r3.1) (r3.2.1) (r3.2.2.1) ((r3.2.2.2) + (-1)) (by subst er3; unfold bd_X7_most_9; first | (simp only [if_neg h1]; done) | (simp only [if_neg h1]; rfl) | rfl))
/-- VotingFloor$Strides.most(II)I -/
noncomputable def v_X7_most (p0 : Int32) (p1 : Int32) (μ : Mm) : Int32 := (let r2 : Int32 := whl (fun s : Int32 × Int32 × Int32 × Int32 => bd_X7_most_9  μ s.1 s.2.1 s.2.2.1 s.2.2.2) (fun _ : Int32 × Int32 × Int32 × Int32 => 0) FU (p0, 0, p1, 18); r2)
def p_X7_most (p0 : Int32) (p1 : Int32)  (μ : Mm) : Prop := whP (fun s : Int32 × Int32 × Int32 × Int32 => bd_X7_most_9  μ s.1 s.2.1 s.2.2.1 s.2.2.2) (fun s : Int32 × Int32 × Int32 × Int32 => sd_X7_most_9   μ s.1 s.2.1 s.2.2.1 s.2.2.2) FU (p0, 0, p1, 18)
set_option maxRecDepth 20000 in
set_option maxHeartbeats 4000000 in
theorem con_X7_most {E : Ex} {Q : Option Value → Mm → Prop} {p0 : Int32} {p1 : Int32} {μ : Mm} (t : p_X7_most p0 p1  μ) (k : Q (some (.int (v_X7_most p0 p1 μ))) μ) : Con E 2 mX7_most [rf E 35, .int p0, .int p1] μ Q := by
  refine Con_J (by decide +kernel) (Nat.le_of_ble_eq_true rfl) (fun G => ?_)
  unfold v_X7_most at k
  unfold p_X7_most at t
  refine J_sub (ls' := [(0, rf E 35), (1, .int p0), (2, .int p1)]) [0, 1, 2] rfl ?_
  refine J_iconst (v := 0) (dk okX7_most 0 rfl) (by decide) ?_
  refine J_istore_n (ls' := [(3, _), (0, _), (1, _), (2, _)]) (dk okX7_most 1 rfl) rfl (by decide) rfl ?_
  refine J_iload_n (dk okX7_most 2 rfl) 3 rfl rfl ?_
  refine J_istore (ls' := [(4, _), (3, _), (0, _), (1, _), (2, _)]) (dk okX7_most 3 rfl) (by decide) rfl ?_
  refine J_bipush (v := 18) (dk okX7_most 4 rfl) (by decide) ?_
  refine J_istore (ls' := [(5, _), (4, _), (3, _), (0, _), (1, _), (2, _)]) (dk okX7_most 5 rfl) (by decide) rfl ?_
  have s1 := t
  refine J_sub (ls' := [(0, _), (1, _), (3, _), (4, _), (5, _)]) [3, 4, 2, 1, 0] rfl ?_
  refine lw_X7_most_9  s1 (fun r2 er2 => ?_)
  refine J_iload_n (dk okX7_most 42 rfl) 0 rfl rfl ?_
  subst er2
  exact J_iret (dk okX7_most 43 rfl) rfl k
noncomputable def bd_X8_total_7  (μ : Mm) (x1 : Int32) (x2 : Int32) (x3 : Int32) : (Int32 × Int32 × Int32) ⊕ (Int32) := (if 7 ≤ x3 then .inr x2 else .inl (x1, (x2 + (if (v_X11_isIn x1 x3) = 0 then 0 else (μ.1 34 (Int32.toNatClampNeg x3)) : Int32)), (x3 + 1)))
def sd_X8_total_7   (μ : Mm) (x1 : Int32) (x2 : Int32) (x3 : Int32) : Prop := (¬ (7 ≤ x3) → (¬ ((v_X11_isIn x1 x3) = 0) → vp_in x3 7))
set_option maxRecDepth 20000 in
set_option maxHeartbeats 4000000 in
theorem lw_X8_total_7 {E : Ex} {G : Gx} {Q : Option Value → Mm → Prop} {x1 : Int32} {x2 : Int32} {x3 : Int32} {μ : Mm}  (p : whP (fun s : Int32 × Int32 × Int32 => bd_X8_total_7  μ s.1 s.2.1 s.2.2) (fun s : Int32 × Int32 × Int32 => sd_X8_total_7   μ s.1 s.2.1 s.2.2) FU (x1, x2, x3)) (k : ∀ r : Int32, r = whl (fun s : Int32 × Int32 × Int32 => bd_X8_total_7  μ s.1 s.2.1 s.2.2) (fun _ : Int32 × Int32 × Int32 => 0) FU (x1, x2, x3) → J E G 2 mX8_total Q 40 [(2, .int r)] [] μ) : J E G 2 mX8_total Q 7 [(0, rf E 33), (1, .int x1), (2, .int x2), (3, .int x3)] [] μ := by
  refine J_whl (f := (fun s : Int32 × Int32 × Int32 => bd_X8_total_7  μ s.1 s.2.1 s.2.2)) (dd := (fun _ : Int32 × Int32 × Int32 => 0)) (sd := (fun s : Int32 × Int32 × Int32 => sd_X8_total_7   μ s.1 s.2.1 s.2.2)) (P := fun s : Int32 × Int32 × Int32 => J E G 2 mX8_total Q 7 [(0, rf E 33), (1, .int (s.1)), (2, .int (s.2.1)), (3, .int (s.2.2))] [] (μ)) (R := fun r : Int32 => J E G 2 mX8_total Q 40 [(2, .int r)] [] μ) ?_ FU (x1, x2, x3) p (k _ rfl)
  clear p k
  rintro ⟨x1, x2, x3⟩ t k1 k2
  dsimp only [sd_X8_total_7] at t
  have kb : ∀ (y1 : Int32) (y2 : Int32) (y3 : Int32) , bd_X8_total_7  μ x1 x2 x3 = .inl (y1, y2, y3) → J E G 2 mX8_total Q 7 [(0, rf E 33), (1, .int y1), (2, .int y2), (3, .int y3)] [] μ := fun y1 y2 y3  h => k1 (y1, y2, y3) h
  have kx : ∀ (y2 : Int32) , bd_X8_total_7  μ x1 x2 x3 = .inr y2 → J E G 2 mX8_total Q 40 [(2, .int y2)] [] μ := fun y2  h => k2 y2 h
  clear k1 k2
  refine J_iload_n (dk okX8_total 5 rfl) 3 rfl rfl ?_
  refine J_bipush (v := 7) (dk okX8_total 6 rfl) (by decide) ?_
  refine J_icmp_ge (tgt := 40) (dk okX8_total 7 rfl) (by decide) (fun h1 => ?_) (fun h1 => ?_)
  · exact J_sub [2] rfl (kx x2 (by unfold bd_X8_total_7; first | (simp only [if_pos h1]; done) | (simp only [if_pos h1]; rfl) | rfl))
  · have t := t h1
    refine J_iload_n (dk okX8_total 8 rfl) 2 rfl rfl ?_
    refine J_iload_n (dk okX8_total 9 rfl) 1 rfl rfl ?_
    refine J_iload_n (dk okX8_total 10 rfl) 3 rfl rfl ?_
    refine J_callSNi (As := [.int x1, .int x3]) (dk okX8_total 11 rfl) skX11_isIn lkX8_28 rfl rfl (Nat.le_of_ble_eq_true rfl) (by decide) (con_X11_isIn  ⟨_, rfl, ?_⟩)
    have K4 : J E G 2 mX8_total Q 32 [(0, rf E 33), (1, .int x1), (3, .int x3)] [.int (if (v_X11_isIn x1 x3) = 0 then 0 else (μ.1 34 (Int32.toNatClampNeg x3)) : Int32), .int x2] μ := by
      refine J_iadd (dk okX8_total 19 rfl) ?_
      refine J_istore_n (ls' := [(2, _), (0, _), (1, _), (3, _)]) (dk okX8_total 20 rfl) rfl (by decide) rfl ?_
      refine J_iinc (v := (x3 + 1)) (ls' := [(3, _), (2, _), (0, _), (1, _)]) (dk okX8_total 21 rfl) 3 rfl rfl (by decide) rfl ?_
      refine J_goto (tgt := 7) (dk okX8_total 22 rfl) (by decide) ?_
      exact J_sub [2, 3, 1, 0] rfl (kb x1 (x2 + (if (v_X11_isIn x1 x3) = 0 then 0 else (μ.1 34 (Int32.toNatClampNeg x3)) : Int32)) (x3 + 1) (by unfold bd_X8_total_7; first | (simp only [if_neg h1]; done) | (simp only [if_neg h1]; rfl) | rfl))
    refine J_if_eq (tgt := 31) (dk okX8_total 12 rfl) (by decide) (fun h2 => ?_) (fun h2 => ?_)
    · refine J_iconst (v := 0) (dk okX8_total 18 rfl) (by decide) ?_
      refine J_sub (ls' := [(0, _), (1, _), (3, _)]) [0, 1, 3] rfl ?_
      (try simp only [if_pos h2] at K4 ⊢); exact K4
    · have t := t h2
      refine J_aload_n (dk okX8_total 13 rfl) 0 rfl rfl ?_
      refine J_getR (dk okX8_total 14 rfl) kfX8_9 ds_33 rfl ?_
      refine J_iload_n (dk okX8_total 15 rfl) 3 rfl rfl ?_
      have s3 := t
      refine J_iald (dk okX8_total 16 rfl) ds_34 s3 ?_
      refine J_goto (tgt := 32) (dk okX8_total 17 rfl) (by decide) ?_
      refine J_sub (ls' := [(0, _), (1, _), (3, _)]) [0, 1, 3] rfl ?_
      (try simp only [if_neg h2] at K4 ⊢); exact K4
/-- VotingFloor$Sums.total(I)I -/
noncomputable def v_X8_total (p0 : Int32) (μ : Mm) : Int32 := (let r2 : Int32 := whl (fun s : Int32 × Int32 × Int32 => bd_X8_total_7  μ s.1 s.2.1 s.2.2) (fun _ : Int32 × Int32 × Int32 => 0) FU (p0, (μ.1 33 2), 0); r2)
def p_X8_total (p0 : Int32)  (μ : Mm) : Prop := whP (fun s : Int32 × Int32 × Int32 => bd_X8_total_7  μ s.1 s.2.1 s.2.2) (fun s : Int32 × Int32 × Int32 => sd_X8_total_7   μ s.1 s.2.1 s.2.2) FU (p0, (μ.1 33 2), 0)
set_option maxRecDepth 20000 in
set_option maxHeartbeats 4000000 in
theorem con_X8_total {E : Ex} {Q : Option Value → Mm → Prop} {p0 : Int32} {μ : Mm} (t : p_X8_total p0  μ) (k : Q (some (.int (v_X8_total p0 μ))) μ) : Con E 2 mX8_total [rf E 33, .int p0] μ Q := by
  refine Con_J (by decide +kernel) (Nat.le_of_ble_eq_true rfl) (fun G => ?_)
  unfold v_X8_total at k
  unfold p_X8_total at t
  refine J_sub (ls' := [(0, rf E 33), (1, .int p0)]) [0, 1] rfl ?_
  refine J_aload_n (dk okX8_total 0 rfl) 0 rfl rfl ?_
  refine J_getI (dk okX8_total 1 rfl) kfX8_19 ds_33 rfl ?_
  refine J_istore_n (ls' := [(2, _), (0, _), (1, _)]) (dk okX8_total 2 rfl) rfl (by decide) rfl ?_
  refine J_iconst (v := 0) (dk okX8_total 3 rfl) (by decide) ?_
  refine J_istore_n (ls' := [(3, _), (2, _), (0, _), (1, _)]) (dk okX8_total 4 rfl) rfl (by decide) rfl ?_
  have s1 := t
  refine J_sub (ls' := [(0, _), (1, _), (2, _), (3, _)]) [2, 3, 1, 0] rfl ?_
  refine lw_X8_total_7  s1 (fun r2 er2 => ?_)
  refine J_iload_n (dk okX8_total 23 rfl) 0 rfl rfl ?_
  subst er2
  exact J_iret (dk okX8_total 24 rfl) rfl k
/-- java/lang/String.indexOf(II)I -/
noncomputable def v_J0_indexOf_7cf53 (b : Nat) (p0 : Int32) (p1 : Int32) (μ : Mm) : Int32 := (v_J1_indexOf_4cfef b p0 p1 (v_J0_length_8abf5 b) μ)
def p_J0_indexOf_7cf53 (b : Nat) (p0 : Int32) (p1 : Int32)  (μ : Mm) : Prop := (((v_J0_isLatin1_aae02 b) = 0 → False) ∧ (¬ ((v_J0_isLatin1_aae02 b) = 0) → p_J1_indexOf_4cfef b p0 p1 (v_J0_length_8abf5 b) μ))
set_option maxRecDepth 20000 in
set_option maxHeartbeats 4000000 in
theorem con_J0_indexOf_7cf53 {E : Ex} {Q : Option Value → Mm → Prop} {b : Nat} {p0 : Int32} {p1 : Int32} {μ : Mm} (hb : b < strN) (t : p_J0_indexOf_7cf53 b p0 p1  μ) (k : Q (some (.int (v_J0_indexOf_7cf53 b p0 p1 μ))) μ) : Con E 3 mJ0_indexOf_7cf53 [sf E b, .int p0, .int p1] μ Q := by
  refine Con_J (by decide +kernel) (Nat.le_of_ble_eq_true rfl) (fun G => ?_)
  unfold v_J0_indexOf_7cf53 at k
  unfold p_J0_indexOf_7cf53 at t
  refine J_sub (ls' := [(0, sf E b), (1, .int p0), (2, .int p1)]) [0, 1, 2] rfl ?_
  refine J_aload_nS (dk okJ0_indexOf_7cf53 0 rfl) 0 rfl rfl ?_
  refine J_callVSi (As := []) (dk okJ0_indexOf_7cf53 1 rfl) hb vkJ0_isLatin1_aae02 lkJ0_492 rfl rfl (Nat.le_of_ble_eq_true rfl) (by decide) (con_J0_isLatin1_aae02 hb ⟨_, rfl, ?_⟩)
  refine J_if_eq (tgt := 23) (dk okJ0_indexOf_7cf53 2 rfl) (by decide) (fun h3 => ?_) (fun h3 => ?_)
  · have t := t.1 h3
    refine J_aload_nS (dk okJ0_indexOf_7cf53 11 rfl) 0 rfl rfl ?_
    refine J_getV (dk okJ0_indexOf_7cf53 12 rfl) kfJ0_9 hb ?_
    refine J_iload_n (dk okJ0_indexOf_7cf53 13 rfl) 1 rfl rfl ?_
    refine J_iload_n (dk okJ0_indexOf_7cf53 14 rfl) 2 rfl rfl ?_
    refine J_aload_nS (dk okJ0_indexOf_7cf53 15 rfl) 0 rfl rfl ?_
    refine J_callVSi (As := []) (dk okJ0_indexOf_7cf53 16 rfl) hb vkJ0_length_8abf5 lkJ0_505 rfl rfl (Nat.le_of_ble_eq_true rfl) (by decide) (con_J0_length_8abf5 hb ⟨_, rfl, ?_⟩)
    exact t.elim
  · have t := t.2 h3
    refine J_aload_nS (dk okJ0_indexOf_7cf53 3 rfl) 0 rfl rfl ?_
    refine J_getV (dk okJ0_indexOf_7cf53 4 rfl) kfJ0_9 hb ?_
    refine J_iload_n (dk okJ0_indexOf_7cf53 5 rfl) 1 rfl rfl ?_
    refine J_iload_n (dk okJ0_indexOf_7cf53 6 rfl) 2 rfl rfl ?_
    refine J_aload_nS (dk okJ0_indexOf_7cf53 7 rfl) 0 rfl rfl ?_
    refine J_callVSi (As := []) (dk okJ0_indexOf_7cf53 8 rfl) hb vkJ0_length_8abf5 lkJ0_505 rfl rfl (Nat.le_of_ble_eq_true rfl) (by decide) (con_J0_length_8abf5 hb ⟨_, rfl, ?_⟩)
    have s4 := t
    refine J_callSi (As := [bf E b, .int p0, .int p1, .int (v_J0_length_8abf5 b)]) (dk okJ0_indexOf_7cf53 9 rfl) skJ1_indexOf_4cfef lkJ0_637 rfl rfl (Nat.le_of_ble_eq_true rfl) (by decide) (con_J1_indexOf_4cfef hb s4 ⟨_, rfl, ?_⟩)
    refine J_goto (tgt := 36) (dk okJ0_indexOf_7cf53 10 rfl) (by decide) ?_
    (try simp only [if_neg h3] at k ⊢)
    exact J_iret (dk okJ0_indexOf_7cf53 18 rfl) rfl k
/-- VotingFloor.again(I)Z -/
noncomputable def v_X11_again (p0 : Int32) (μ : Mm) : Int32 := (v_X3_takeDown p0 1 μ)
noncomputable def e_X11_again (p0 : Int32) (μ : Mm) : Mm := (let μ2 : Mm := (e_X3_takeDown p0 1 μ); μ2)
def p_X11_again (p0 : Int32)  (μ : Mm) : Prop := p_X3_takeDown p0 1 μ
set_option maxRecDepth 20000 in
set_option maxHeartbeats 4000000 in
theorem con_X11_again {E : Ex} {Q : Option Value → Mm → Prop} {p0 : Int32} {μ : Mm} (t : p_X11_again p0  μ) (k : Q (some (.int (v_X11_again p0 μ))) (e_X11_again p0 μ)) : Con E 3 mX11_again [rf E 0, .int p0] μ Q := by
  refine Con_J (by decide +kernel) (Nat.le_of_ble_eq_true rfl) (fun G => ?_)
  unfold v_X11_again e_X11_again at k
  unfold p_X11_again at t
  refine J_sub (ls' := [(0, rf E 0), (1, .int p0)]) [0, 1] rfl ?_
  refine J_aload_n (dk okX11_again 0 rfl) 0 rfl rfl ?_
  refine J_getR (dk okX11_again 1 rfl) kfX11_46 ds_0 rfl ?_
  refine J_iload_n (dk okX11_again 2 rfl) 1 rfl rfl ?_
  refine J_aload_n (dk okX11_again 3 rfl) 0 rfl rfl ?_
  refine J_getR (dk okX11_again 4 rfl) kfX11_12 ds_0 rfl ?_
  have s1 := t
  refine J_callVi (As := [.int p0, rf E 1]) (dk okX11_again 5 rfl) ds_29 rfl vkX3_takeDown lkX11_397 rfl rfl (Nat.le_of_ble_eq_true rfl) (by decide) (con_X3_takeDown FloorAt_1 s1 ⟨_, rfl, ?_⟩)
  refine J_nm (fun μ2 eμ2 => ?_)
  subst eμ2
  exact J_zret (dk okX11_again 6 rfl) rfl (nb_X3_takeDown _ _ _) k
/-- VotingFloor.count(I)I -/
noncomputable def v_X11_count (p0 : Int32) (μ : Mm) : Int32 := (if p0 = 0 then (μ.1 1 0) else (if p0 = 1 then (v_X1_present 1 μ) else (if p0 = 2 then (μ.1 1 6) else (if p0 = 3 then (μ.1 1 7) else (if p0 = 4 then (2000 + (v_X1_moment 1 μ)) else (if p0 = 5 then (v_X1_loadOf 1 (v_X1_present 1 μ) μ) else (if p0 = 6 then (μ.1 38 3) else (if p0 = 7 then (μ.1 42 2) else (if p0 = 8 then (μ.1 29 2) else (if p0 = 9 then (μ.1 27 1) else (if p0 = 10 then (μ.1 25 1) else (-100))))))))))))
def p_X11_count (p0 : Int32)  (μ : Mm) : Prop := (¬ (p0 = 0) → (¬ (p0 = 1) → (¬ (p0 = 2) → (¬ (p0 = 3) → ((p0 = 4 → p_X1_moment 1 μ) ∧ (¬ (p0 = 4) → (p0 = 5 → p_X1_loadOf 1 (v_X1_present 1 μ) μ)))))))
set_option maxRecDepth 20000 in
set_option maxHeartbeats 4000000 in
theorem con_X11_count {E : Ex} {Q : Option Value → Mm → Prop} {p0 : Int32} {μ : Mm} (t : p_X11_count p0  μ) (k : Q (some (.int (v_X11_count p0 μ))) μ) : Con E 3 mX11_count [rf E 0, .int p0] μ Q := by
  refine Con_J (by decide +kernel) (Nat.le_of_ble_eq_true rfl) (fun G => ?_)
  unfold v_X11_count at k
  unfold p_X11_count at t
  refine J_sub (ls' := [(0, rf E 0), (1, .int p0)]) [0, 1] rfl ?_
  refine J_iload_n (dk okX11_count 0 rfl) 1 rfl rfl ?_
  by_cases h2 : p0 = 0
  · refine J_at h2 (J_tableIn (x := 0) (off := 59) (tgt := 60) (dk okX11_count 1 rfl) (by decide) (by decide) (by decide) (by decide) ?_)
    refine J_aload_n (dk okX11_count 2 rfl) 0 rfl rfl ?_
    refine J_getR (dk okX11_count 3 rfl) kfX11_12 ds_0 rfl ?_
    refine J_getI (dk okX11_count 4 rfl) kfX11_106 ds_1 rfl ?_
    (try simp only [if_pos h2] at k ⊢)
    exact J_iret (dk okX11_count 5 rfl) rfl k
  · have t := t h2
    by_cases h3 : p0 = 1
    · refine J_at h3 (J_tableIn (x := 1) (off := 67) (tgt := 68) (dk okX11_count 1 rfl) (by decide) (by decide) (by decide) (by decide) ?_)
      refine J_aload_n (dk okX11_count 6 rfl) 0 rfl rfl ?_
      refine J_getR (dk okX11_count 7 rfl) kfX11_12 ds_0 rfl ?_
      refine J_callVi (As := []) (dk okX11_count 8 rfl) ds_1 rfl vkX1_present lkX11_271 rfl rfl (Nat.le_of_ble_eq_true rfl) (by decide) (con_X1_present FloorAt_1 ⟨_, rfl, ?_⟩)
      (try simp only [if_neg h2, if_pos h3] at k ⊢)
      exact J_iret (dk okX11_count 9 rfl) rfl k
    · have t := t h3
      by_cases h4 : p0 = 2
      · refine J_at h4 (J_tableIn (x := 2) (off := 75) (tgt := 76) (dk okX11_count 1 rfl) (by decide) (by decide) (by decide) (by decide) ?_)
        refine J_aload_n (dk okX11_count 10 rfl) 0 rfl rfl ?_
        refine J_getR (dk okX11_count 11 rfl) kfX11_12 ds_0 rfl ?_
        refine J_getI (dk okX11_count 12 rfl) kfX11_400 ds_1 rfl ?_
        (try simp only [if_neg h2, if_neg h3, if_pos h4] at k ⊢)
        exact J_iret (dk okX11_count 13 rfl) rfl k
      · have t := t h4
        by_cases h5 : p0 = 3
        · refine J_at h5 (J_tableIn (x := 3) (off := 83) (tgt := 84) (dk okX11_count 1 rfl) (by decide) (by decide) (by decide) (by decide) ?_)
          refine J_aload_n (dk okX11_count 14 rfl) 0 rfl rfl ?_
          refine J_getR (dk okX11_count 15 rfl) kfX11_12 ds_0 rfl ?_
          refine J_getI (dk okX11_count 16 rfl) kfX11_403 ds_1 rfl ?_
          (try simp only [if_neg h2, if_neg h3, if_neg h4, if_pos h5] at k ⊢)
          exact J_iret (dk okX11_count 17 rfl) rfl k
        · have t := t h5
          by_cases h6 : p0 = 4
          · have t := t.1 h6
            refine J_at h6 (J_tableIn (x := 4) (off := 91) (tgt := 92) (dk okX11_count 1 rfl) (by decide) (by decide) (by decide) (by decide) ?_)
            refine J_sipush (v := 2000) (dk okX11_count 18 rfl) (by decide) ?_
            refine J_aload_n (dk okX11_count 19 rfl) 0 rfl rfl ?_
            refine J_getR (dk okX11_count 20 rfl) kfX11_12 ds_0 rfl ?_
            have s7 := t
            refine J_callVi (As := []) (dk okX11_count 21 rfl) ds_1 rfl vkX1_moment lkX11_163 rfl rfl (Nat.le_of_ble_eq_true rfl) (by decide) (con_X1_moment FloorAt_1 s7 ⟨_, rfl, ?_⟩)
            refine J_iadd (dk okX11_count 22 rfl) ?_
            (try simp only [if_neg h2, if_neg h3, if_neg h4, if_neg h5, if_pos h6] at k ⊢)
            exact J_iret (dk okX11_count 23 rfl) rfl k
          · have t := t.2 h6
            by_cases h8 : p0 = 5
            · have t := t h8
              refine J_at h8 (J_tableIn (x := 5) (off := 103) (tgt := 104) (dk okX11_count 1 rfl) (by decide) (by decide) (by decide) (by decide) ?_)
              refine J_aload_n (dk okX11_count 24 rfl) 0 rfl rfl ?_
              refine J_getR (dk okX11_count 25 rfl) kfX11_12 ds_0 rfl ?_
              refine J_aload_n (dk okX11_count 26 rfl) 0 rfl rfl ?_
              refine J_getR (dk okX11_count 27 rfl) kfX11_12 ds_0 rfl ?_
              refine J_callVi (As := []) (dk okX11_count 28 rfl) ds_1 rfl vkX1_present lkX11_271 rfl rfl (Nat.le_of_ble_eq_true rfl) (by decide) (con_X1_present FloorAt_1 ⟨_, rfl, ?_⟩)
              have s9 := t
              refine J_callVi (As := [.int (v_X1_present 1 μ)]) (dk okX11_count 29 rfl) ds_1 rfl vkX1_loadOf lkX11_253 rfl rfl (Nat.le_of_ble_eq_true rfl) (by decide) (con_X1_loadOf FloorAt_1 s9 ⟨_, rfl, ?_⟩)
              (try simp only [if_neg h2, if_neg h3, if_neg h4, if_neg h5, if_neg h6, if_pos h8] at k ⊢)
              exact J_iret (dk okX11_count 30 rfl) rfl k
            · by_cases h10 : p0 = 6
              · refine J_at h10 (J_tableIn (x := 6) (off := 118) (tgt := 119) (dk okX11_count 1 rfl) (by decide) (by decide) (by decide) (by decide) ?_)
                refine J_aload_n (dk okX11_count 31 rfl) 0 rfl rfl ?_
                refine J_getR (dk okX11_count 32 rfl) kfX11_67 ds_0 rfl ?_
                refine J_getI (dk okX11_count 33 rfl) kfX11_335 ds_38 rfl ?_
                (try simp only [if_neg h2, if_neg h3, if_neg h4, if_neg h5, if_neg h6, if_neg h8, if_pos h10] at k ⊢)
                exact J_iret (dk okX11_count 34 rfl) rfl k
              · by_cases h11 : p0 = 7
                · refine J_at h11 (J_tableIn (x := 7) (off := 126) (tgt := 127) (dk okX11_count 1 rfl) (by decide) (by decide) (by decide) (by decide) ?_)
                  refine J_aload_n (dk okX11_count 35 rfl) 0 rfl rfl ?_
                  refine J_getR (dk okX11_count 36 rfl) kfX11_74 ds_0 rfl ?_
                  refine J_getI (dk okX11_count 37 rfl) kfX11_360 ds_42 rfl ?_
                  (try simp only [if_neg h2, if_neg h3, if_neg h4, if_neg h5, if_neg h6, if_neg h8, if_neg h10, if_pos h11] at k ⊢)
                  exact J_iret (dk okX11_count 38 rfl) rfl k
                · by_cases h12 : p0 = 8
                  · refine J_at h12 (J_tableIn (x := 8) (off := 134) (tgt := 135) (dk okX11_count 1 rfl) (by decide) (by decide) (by decide) (by decide) ?_)
                    refine J_aload_n (dk okX11_count 39 rfl) 0 rfl rfl ?_
                    refine J_getR (dk okX11_count 40 rfl) kfX11_46 ds_0 rfl ?_
                    refine J_getI (dk okX11_count 41 rfl) kfX11_247 ds_29 rfl ?_
                    (try simp only [if_neg h2, if_neg h3, if_neg h4, if_neg h5, if_neg h6, if_neg h8, if_neg h10, if_neg h11, if_pos h12] at k ⊢)
                    exact J_iret (dk okX11_count 42 rfl) rfl k
                  · by_cases h13 : p0 = 9
                    · refine J_at h13 (J_tableIn (x := 9) (off := 142) (tgt := 143) (dk okX11_count 1 rfl) (by decide) (by decide) (by decide) (by decide) ?_)
                      refine J_aload_n (dk okX11_count 43 rfl) 0 rfl rfl ?_
                      refine J_getR (dk okX11_count 44 rfl) kfX11_39 ds_0 rfl ?_
                      refine J_getI (dk okX11_count 45 rfl) kfX11_328 ds_27 rfl ?_
                      (try simp only [if_neg h2, if_neg h3, if_neg h4, if_neg h5, if_neg h6, if_neg h8, if_neg h10, if_neg h11, if_neg h12, if_pos h13] at k ⊢)
                      exact J_iret (dk okX11_count 46 rfl) rfl k
                    · by_cases h14 : p0 = 10
                      · refine J_at h14 (J_tableIn (x := 10) (off := 150) (tgt := 151) (dk okX11_count 1 rfl) (by decide) (by decide) (by decide) (by decide) ?_)
                        refine J_aload_n (dk okX11_count 47 rfl) 0 rfl rfl ?_
                        refine J_getR (dk okX11_count 48 rfl) kfX11_32 ds_0 rfl ?_
                        refine J_getI (dk okX11_count 49 rfl) kfX11_99 ds_25 rfl ?_
                        (try simp only [if_neg h2, if_neg h3, if_neg h4, if_neg h5, if_neg h6, if_neg h8, if_neg h10, if_neg h11, if_neg h12, if_neg h13, if_pos h14] at k ⊢)
                        exact J_iret (dk okX11_count 50 rfl) rfl k
                      · have nh2 := lv_neT (a := 0) h2 (by decide)
                        have nh3 := lv_neT (a := 1) h3 (by decide)
                        have nh4 := lv_neT (a := 2) h4 (by decide)
                        have nh5 := lv_neT (a := 3) h5 (by decide)
                        have nh6 := lv_neT (a := 4) h6 (by decide)
                        have nh8 := lv_neT (a := 5) h8 (by decide)
                        have nh10 := lv_neT (a := 6) h10 (by decide)
                        have nh11 := lv_neT (a := 7) h11 (by decide)
                        have nh12 := lv_neT (a := 8) h12 (by decide)
                        have nh13 := lv_neT (a := 9) h13 (by decide)
                        have nh14 := lv_neT (a := 10) h14 (by decide)
                        refine J_tableOut (tgt := 159) (dk okX11_count 1 rfl) (by omega) (by decide) ?_
                        refine J_bipush (v := (-100)) (dk okX11_count 51 rfl) (by decide) ?_
                        (try simp only [if_neg h2, if_neg h3, if_neg h4, if_neg h5, if_neg h6, if_neg h8, if_neg h10, if_neg h11, if_neg h12, if_neg h13, if_neg h14] at k ⊢)
                        exact J_iret (dk okX11_count 52 rfl) rfl k

/-! constructors, walked; by program (wip/whole/mkmake.py) -/
theorem mk_emit {B : Bx} {h q1 j : Nat} {i v : Int32} {rest : List Value} {f : Nat → Int32} (hj : i.toNatClampNeg = j) (hlt : ¬ (41 : Int32) ≤ i) (hin : vp_in i 41) : Mk B 0 mX5_emit [.ref h, .int v] [(h, .inr (5, .ref q1 :: .int i :: rest)), (q1, .inl (B.2.2 1, 41, .inl f))] (fun _ => [(h, .inr (5, .ref q1 :: .int (i + 1) :: rest)), (q1, .inl (B.2.2 1, 41, .inl (upd f j v)))]) 0 0 := by
  refine Mk_I (by decide) (Nat.le_of_ble_eq_true rfl) (fun G hR hm hz => ?_)
  refine I_aload_n (x := h) (dk okX5_emit 0 rfl) 0 rfl rfl ?_
  refine I_get (v := .int i) (dk okX5_emit 1 rfl) kfX5_15 rfl ?_
  refine I_aload_n (x := h) (dk okX5_emit 2 rfl) 0 rfl rfl ?_
  refine I_get (v := .ref q1) (dk okX5_emit 3 rfl) kfX5_11 rfl ?_
  refine I_alen (dk okX5_emit 4 rfl) 1 rfl ?_
  refine I_icmp_ge (tgt := 32) (dk okX5_emit 5 rfl) (by decide) (fun y => absurd y hlt) (fun _ => ?_)
  refine I_aload_n (x := h) (dk okX5_emit 6 rfl) 0 rfl rfl ?_
  refine I_get (v := .ref q1) (dk okX5_emit 7 rfl) kfX5_11 rfl ?_
  refine I_aload_n (x := h) (dk okX5_emit 8 rfl) 0 rfl rfl ?_
  refine I_get (v := .int i) (dk okX5_emit 9 rfl) kfX5_15 rfl ?_
  refine I_iload_n (x := v) (dk okX5_emit 10 rfl) 1 rfl rfl ?_
  refine I_iast (j := j) (ws' := [(h, .inr (5, .ref q1 :: .int i :: rest)), (q1, .inl (B.2.2 1, 41, .inl (upd f j v)))]) (dk okX5_emit 11 rfl) 1 rfl hin hj rfl ?_
  refine I_aload_n (x := h) (dk okX5_emit 12 rfl) 0 rfl rfl ?_
  refine I_dup (dk okX5_emit 13 rfl) rfl ?_
  refine I_get (v := .int i) (dk okX5_emit 14 rfl) kfX5_15 rfl ?_
  refine I_iconst (v := 1) (dk okX5_emit 15 rfl) (by decide) ?_
  refine I_iadd (dk okX5_emit 16 rfl) ?_
  refine I_put (fs' := .ref q1 :: .int (i + 1) :: rest) (dk okX5_emit 17 rfl) pcX5_15 (Or.inr kpX5_15) rfl rfl (by simp) rfl ?_
  exact I_ret (dk okX5_emit 18 rfl) rfl hz (fun _ => 0) rfl rfl rfl
theorem mk_none {B : Bx} {h q1 : Nat} {rest : List Value} : Mk B 1 mX5_becomeNone [.ref h] [(h, .inr (5, .ref q1 :: .int 0 :: rest)), (q1, .inl (B.2.2 1, 41, .inl (fun _ => 0)))] (fun _ => [(h, .inr (5, .ref q1 :: .int 3 :: rest)), (q1, .inl (B.2.2 1, 41, .inl (upd (upd (upd (fun _ => 0) 0 (-1)) 1 (-2)) 2 (-45))))]) 0 0 := by
  refine Mk_I (by decide) (Nat.le_of_ble_eq_true rfl) (fun G hR hm hz => ?_)
  refine I_aload_n (x := h) (dk okX5_becomeNone 0 rfl) 0 rfl rfl ?_
  refine I_iconst (v := -1) (dk okX5_becomeNone 1 rfl) (by decide) ?_
  refine I_callV2 (As := [.int (-1)]) (st := []) (dk okX5_becomeNone 2 rfl) rfl vkX5_emit lkX5_78 rfl rfl (Nat.le_of_ble_eq_true rfl) (by decide) (by rw [hR]; exact Nat.zero_le _) (by rw [hR]; exact Nat.zero_le _) (mk_emit (j := 0) (by decide) (by decide) (vp_in_nI (n := 0) (N := 41) (by decide) (by decide))) (fun _ => ?_)
  refine I_aload_n (x := h) (dk okX5_becomeNone 3 rfl) 0 rfl rfl ?_
  refine I_bipush (v := -2) (dk okX5_becomeNone 4 rfl) (by decide) ?_
  refine I_callV2 (As := [.int (-2)]) (st := []) (dk okX5_becomeNone 5 rfl) rfl vkX5_emit lkX5_78 rfl rfl (Nat.le_of_ble_eq_true rfl) (by decide) (by rw [hR]; exact Nat.zero_le _) (by rw [hR]; exact Nat.zero_le _) (mk_emit (i := 0 + 1) (j := 1) (by decide) (by decide) (vp_in_nI (n := 1) (N := 41) (by decide) (by decide))) (fun _ => ?_)
  refine I_aload_n (x := h) (dk okX5_becomeNone 6 rfl) 0 rfl rfl ?_
  refine I_bipush (v := -45) (dk okX5_becomeNone 7 rfl) (by decide) ?_
  refine I_callV2 (As := [.int (-45)]) (st := []) (dk okX5_becomeNone 8 rfl) rfl vkX5_emit lkX5_78 rfl rfl (Nat.le_of_ble_eq_true rfl) (by decide) (by rw [hR]; exact Nat.zero_le _) (by rw [hR]; exact Nat.zero_le _) (mk_emit (i := 0 + 1 + 1) (j := 2) (by decide) (by decide) (vp_in_nI (n := 2) (N := 41) (by decide) (by decide))) (fun _ => ?_)
  exact I_ret (dk okX5_becomeNone 9 rfl) rfl hz (fun _ => 0) rfl rfl rfl
set_option maxRecDepth 100000 in
theorem mk_X0 (B : Bx) (h : Nat) : Mk B 1 mX0_init [.ref h] [(h, .inr (0, zX0))] (wX0 B h) 0 0 := by
  refine Mk_I (by decide) (Nat.le_of_ble_eq_true rfl) (fun G hR hm hz => ?_)
  have hm : (gM G).name = "<init>" := hm.symm
  refine I_aload_n (x := h) (dk okX0_init 0 rfl) 0 rfl rfl ?_
  refine I_obj (dk okX0_init 1 rfl) liX0_1 (by decide) ?_
  refine I_aload_n (x := h) (dk okX0_init 2 rfl) 0 rfl rfl ?_
  refine I_iconst (v := 0) (dk okX0_init 3 rfl) (by decide) ?_
  refine I_put (fs' := [.int 0]) (dk okX0_init 4 rfl) pcX0_7 (Or.inl hm) rfl rfl (Nat.le_of_ble_eq_true rfl) rfl ?_
  exact I_ret (dk okX0_init 5 rfl) rfl hz (fun _ => 0) rfl rfl rfl
set_option maxRecDepth 100000 in
theorem mk_X1 (B : Bx) (h : Nat) : Mk B 1 mX1_init [.ref h] [(h, .inr (1, zX1))] (wX1 B h) 6 42 := by
  refine Mk_I (by decide) (Nat.le_of_ble_eq_true rfl) (fun G hR hm hz => ?_)
  have hm : (gM G).name = "<init>" := hm.symm
  refine I_aload_n (x := h) (dk okX1_init 0 rfl) 0 rfl rfl ?_
  refine I_obj (dk okX1_init 1 rfl) liX1_3 (by decide) ?_
  refine I_aload_n (x := h) (dk okX1_init 2 rfl) 0 rfl rfl ?_
  refine I_iconst (v := 0) (dk okX1_init 3 rfl) (by decide) ?_
  refine I_put (fs' := [.int 0, .null, .null, .null, .null, .int 0, .int 0, .int 0, .null, .null]) (dk okX1_init 4 rfl) pcX1_9 (Or.inl hm) rfl rfl (Nat.le_of_ble_eq_true rfl) rfl ?_
  refine I_aload_n (x := h) (dk okX1_init 5 rfl) 0 rfl rfl ?_
  refine I_bipush (v := 7) (dk okX1_init 6 rfl) (by decide) ?_
  refine I_newa (t := 1) (N := 7) (ty := .int) (a0 := (7, .inl (fun _ => 0))) (dk okX1_init 7 rfl) arr_int rfl rfl (fun _ _ h => h) (fun _ => rfl) (by decide) (by decide) (by decide) (by rw [hR]; exact Nat.le_of_ble_eq_true rfl) (by rw [hR]; exact Nat.le_of_ble_eq_true rfl) (fun q12 => I_cons ?_)
  refine I_put (fs' := [.int 0, .ref q12, .null, .null, .null, .int 0, .int 0, .int 0, .null, .null]) (dk okX1_init 8 rfl) pcX1_15 (Or.inl hm) rfl rfl (Nat.le_of_ble_eq_true rfl) rfl ?_
  refine I_aload_n (x := h) (dk okX1_init 9 rfl) 0 rfl rfl ?_
  refine I_bipush (v := 7) (dk okX1_init 10 rfl) (by decide) ?_
  refine I_newa (t := 1) (N := 7) (ty := .int) (a0 := (7, .inl (fun _ => 0))) (dk okX1_init 11 rfl) arr_int rfl rfl (fun _ _ h => h) (fun _ => rfl) (by decide) (by decide) (by decide) (by rw [hR]; exact Nat.le_of_ble_eq_true rfl) (by rw [hR]; exact Nat.le_of_ble_eq_true rfl) (fun q20 => I_cons ?_)
  refine I_put (fs' := [.int 0, .ref q12, .ref q20, .null, .null, .int 0, .int 0, .int 0, .null, .null]) (dk okX1_init 12 rfl) pcX1_19 (Or.inl hm) rfl rfl (Nat.le_of_ble_eq_true rfl) rfl ?_
  refine I_aload_n (x := h) (dk okX1_init 13 rfl) 0 rfl rfl ?_
  refine I_bipush (v := 7) (dk okX1_init 14 rfl) (by decide) ?_
  refine I_newa (t := 1) (N := 7) (ty := .int) (a0 := (7, .inl (fun _ => 0))) (dk okX1_init 15 rfl) arr_int rfl rfl (fun _ _ h => h) (fun _ => rfl) (by decide) (by decide) (by decide) (by rw [hR]; exact Nat.le_of_ble_eq_true rfl) (by rw [hR]; exact Nat.le_of_ble_eq_true rfl) (fun q28 => I_cons ?_)
  refine I_put (fs' := [.int 0, .ref q12, .ref q20, .ref q28, .null, .int 0, .int 0, .int 0, .null, .null]) (dk okX1_init 16 rfl) pcX1_22 (Or.inl hm) rfl rfl (Nat.le_of_ble_eq_true rfl) rfl ?_
  refine I_aload_n (x := h) (dk okX1_init 17 rfl) 0 rfl rfl ?_
  refine I_bipush (v := 7) (dk okX1_init 18 rfl) (by decide) ?_
  refine I_newa (t := 1) (N := 7) (ty := .int) (a0 := (7, .inl (fun _ => 0))) (dk okX1_init 19 rfl) arr_int rfl rfl (fun _ _ h => h) (fun _ => rfl) (by decide) (by decide) (by decide) (by rw [hR]; exact Nat.le_of_ble_eq_true rfl) (by rw [hR]; exact Nat.le_of_ble_eq_true rfl) (fun q36 => I_cons ?_)
  refine I_put (fs' := [.int 0, .ref q12, .ref q20, .ref q28, .ref q36, .int 0, .int 0, .int 0, .null, .null]) (dk okX1_init 20 rfl) pcX1_25 (Or.inl hm) rfl rfl (Nat.le_of_ble_eq_true rfl) rfl ?_
  refine I_aload_n (x := h) (dk okX1_init 21 rfl) 0 rfl rfl ?_
  refine I_iconst (v := 0) (dk okX1_init 22 rfl) (by decide) ?_
  refine I_put (fs' := [.int 0, .ref q12, .ref q20, .ref q28, .ref q36, .int 0, .int 0, .int 0, .null, .null]) (dk okX1_init 23 rfl) pcX1_28 (Or.inl hm) rfl rfl (Nat.le_of_ble_eq_true rfl) rfl ?_
  refine I_aload_n (x := h) (dk okX1_init 24 rfl) 0 rfl rfl ?_
  refine I_iconst (v := 0) (dk okX1_init 25 rfl) (by decide) ?_
  refine I_put (fs' := [.int 0, .ref q12, .ref q20, .ref q28, .ref q36, .int 0, .int 0, .int 0, .null, .null]) (dk okX1_init 26 rfl) pcX1_31 (Or.inl hm) rfl rfl (Nat.le_of_ble_eq_true rfl) rfl ?_
  refine I_aload_n (x := h) (dk okX1_init 27 rfl) 0 rfl rfl ?_
  refine I_bipush (v := 12) (dk okX1_init 28 rfl) (by decide) ?_
  refine I_put (fs' := [.int 0, .ref q12, .ref q20, .ref q28, .ref q36, .int 0, .int 0, .int 12, .null, .null]) (dk okX1_init 29 rfl) pcX1_34 (Or.inl hm) rfl rfl (Nat.le_of_ble_eq_true rfl) rfl ?_
  refine I_aload_n (x := h) (dk okX1_init 30 rfl) 0 rfl rfl ?_
  refine I_bipush (v := 7) (dk okX1_init 31 rfl) (by decide) ?_
  refine I_newa (t := 1) (N := 7) (ty := .int) (a0 := (7, .inl (fun _ => 0))) (dk okX1_init 32 rfl) arr_int rfl rfl (fun _ _ h => h) (fun _ => rfl) (by decide) (by decide) (by decide) (by rw [hR]; exact Nat.le_of_ble_eq_true rfl) (by rw [hR]; exact Nat.le_of_ble_eq_true rfl) (fun q60 => I_cons ?_)
  refine I_put (fs' := [.int 0, .ref q12, .ref q20, .ref q28, .ref q36, .int 0, .int 0, .int 12, .ref q60, .null]) (dk okX1_init 33 rfl) pcX1_37 (Or.inl hm) rfl rfl (Nat.le_of_ble_eq_true rfl) rfl ?_
  refine I_aload_n (x := h) (dk okX1_init 34 rfl) 0 rfl rfl ?_
  refine I_bipush (v := 7) (dk okX1_init 35 rfl) (by decide) ?_
  refine I_newa (t := 1) (N := 7) (ty := .int) (a0 := (7, .inl (fun _ => 0))) (dk okX1_init 36 rfl) arr_int rfl rfl (fun _ _ h => h) (fun _ => rfl) (by decide) (by decide) (by decide) (by rw [hR]; exact Nat.le_of_ble_eq_true rfl) (by rw [hR]; exact Nat.le_of_ble_eq_true rfl) (fun q68 => I_cons ?_)
  refine I_put (fs' := [.int 0, .ref q12, .ref q20, .ref q28, .ref q36, .int 0, .int 0, .int 12, .ref q60, .ref q68]) (dk okX1_init 37 rfl) pcX1_42 (Or.inl hm) rfl rfl (Nat.le_of_ble_eq_true rfl) rfl ?_
  exact I_ret (dk okX1_init 38 rfl) rfl hz (fun j => ([0, q12, q20, q28, q36, q60, q68] : List Nat).getD j 0) rfl rfl rfl
set_option maxRecDepth 100000 in
theorem mk_X2 (B : Bx) (h : Nat) : Mk B 1 mX2_init [.ref h] [(h, .inr (2, zX2))] (wX2 B h) 2 24 := by
  refine Mk_I (by decide) (Nat.le_of_ble_eq_true rfl) (fun G hR hm hz => ?_)
  have hm : (gM G).name = "<init>" := hm.symm
  refine I_aload_n (x := h) (dk okX2_init 0 rfl) 0 rfl rfl ?_
  refine I_obj (dk okX2_init 1 rfl) liX2_3 (by decide) ?_
  refine I_aload_n (x := h) (dk okX2_init 2 rfl) 0 rfl rfl ?_
  refine I_bipush (v := 12) (dk okX2_init 3 rfl) (by decide) ?_
  refine I_newa (t := 1) (N := 12) (ty := .int) (a0 := (12, .inl (fun _ => 0))) (dk okX2_init 4 rfl) arr_int rfl rfl (fun _ _ h => h) (fun _ => rfl) (by decide) (by decide) (by decide) (by rw [hR]; exact Nat.le_of_ble_eq_true rfl) (by rw [hR]; exact Nat.le_of_ble_eq_true rfl) (fun q7 => I_cons ?_)
  refine I_put (fs' := [.ref q7, .null, .int 0]) (dk okX2_init 5 rfl) pcX2_11 (Or.inl hm) rfl rfl (Nat.le_of_ble_eq_true rfl) rfl ?_
  refine I_aload_n (x := h) (dk okX2_init 6 rfl) 0 rfl rfl ?_
  refine I_bipush (v := 12) (dk okX2_init 7 rfl) (by decide) ?_
  refine I_newa (t := 1) (N := 12) (ty := .int) (a0 := (12, .inl (fun _ => 0))) (dk okX2_init 8 rfl) arr_int rfl rfl (fun _ _ h => h) (fun _ => rfl) (by decide) (by decide) (by decide) (by rw [hR]; exact Nat.le_of_ble_eq_true rfl) (by rw [hR]; exact Nat.le_of_ble_eq_true rfl) (fun q15 => I_cons ?_)
  refine I_put (fs' := [.ref q7, .ref q15, .int 0]) (dk okX2_init 9 rfl) pcX2_15 (Or.inl hm) rfl rfl (Nat.le_of_ble_eq_true rfl) rfl ?_
  refine I_aload_n (x := h) (dk okX2_init 10 rfl) 0 rfl rfl ?_
  refine I_iconst (v := 0) (dk okX2_init 11 rfl) (by decide) ?_
  refine I_put (fs' := [.ref q7, .ref q15, .int 0]) (dk okX2_init 12 rfl) pcX2_18 (Or.inl hm) rfl rfl (Nat.le_of_ble_eq_true rfl) rfl ?_
  exact I_ret (dk okX2_init 13 rfl) rfl hz (fun j => ([0, q7, q15] : List Nat).getD j 0) rfl rfl rfl
set_option maxRecDepth 100000 in
theorem mk_X3 (B : Bx) (h : Nat) : Mk B 1 mX3_init [.ref h] [(h, .inr (3, zX3))] (wX3 B h) 3 459 := by
  refine Mk_I (by decide) (Nat.le_of_ble_eq_true rfl) (fun G hR hm hz => ?_)
  have hm : (gM G).name = "<init>" := hm.symm
  refine I_aload_n (x := h) (dk okX3_init 0 rfl) 0 rfl rfl ?_
  refine I_obj (dk okX3_init 1 rfl) liX3_3 (by decide) ?_
  refine I_aload_n (x := h) (dk okX3_init 2 rfl) 0 rfl rfl ?_
  refine I_sipush (v := 384) (dk okX3_init 3 rfl) (by decide) ?_
  refine I_newa (t := 1) (N := 384) (ty := .int) (a0 := (384, .inl (fun _ => 0))) (dk okX3_init 4 rfl) arr_int rfl rfl (fun _ _ h => h) (fun _ => rfl) (by decide) (by decide) (by decide) (by rw [hR]; exact Nat.le_of_ble_eq_true rfl) (by rw [hR]; exact Nat.le_of_ble_eq_true rfl) (fun q8 => I_cons ?_)
  refine I_put (fs' := [.ref q8, .int 0, .int 0, .null, .null]) (dk okX3_init 5 rfl) pcX3_11 (Or.inl hm) rfl rfl (Nat.le_of_ble_eq_true rfl) rfl ?_
  refine I_aload_n (x := h) (dk okX3_init 6 rfl) 0 rfl rfl ?_
  refine I_iconst (v := 0) (dk okX3_init 7 rfl) (by decide) ?_
  refine I_put (fs' := [.ref q8, .int 0, .int 0, .null, .null]) (dk okX3_init 8 rfl) pcX3_15 (Or.inl hm) rfl rfl (Nat.le_of_ble_eq_true rfl) rfl ?_
  refine I_aload_n (x := h) (dk okX3_init 9 rfl) 0 rfl rfl ?_
  refine I_iconst (v := 0) (dk okX3_init 10 rfl) (by decide) ?_
  refine I_put (fs' := [.ref q8, .int 0, .int 0, .null, .null]) (dk okX3_init 11 rfl) pcX3_19 (Or.inl hm) rfl rfl (Nat.le_of_ble_eq_true rfl) rfl ?_
  refine I_aload_n (x := h) (dk okX3_init 12 rfl) 0 rfl rfl ?_
  refine I_bipush (v := 72) (dk okX3_init 13 rfl) (by decide) ?_
  refine I_newa (t := 1) (N := 72) (ty := .int) (a0 := (72, .inl (fun _ => 0))) (dk okX3_init 14 rfl) arr_int rfl rfl (fun _ _ h => h) (fun _ => rfl) (by decide) (by decide) (by decide) (by rw [hR]; exact Nat.le_of_ble_eq_true rfl) (by rw [hR]; exact Nat.le_of_ble_eq_true rfl) (fun q26 => I_cons ?_)
  refine I_put (fs' := [.ref q8, .int 0, .int 0, .ref q26, .null]) (dk okX3_init 15 rfl) pcX3_22 (Or.inl hm) rfl rfl (Nat.le_of_ble_eq_true rfl) rfl ?_
  refine I_aload_n (x := h) (dk okX3_init 16 rfl) 0 rfl rfl ?_
  refine I_iconst (v := 3) (dk okX3_init 17 rfl) (by decide) ?_
  refine I_newa (t := 3) (N := 3) (ty := .boolean) (a0 := (3, .inl (fun _ => 0))) (dk okX3_init 18 rfl) arr_boolean rfl rfl (fun _ _ h => h) (fun _ => rfl) (by decide) (by decide) (by decide) (by rw [hR]; exact Nat.le_of_ble_eq_true rfl) (by rw [hR]; exact Nat.le_of_ble_eq_true rfl) (fun q33 => I_cons ?_)
  refine I_put (fs' := [.ref q8, .int 0, .int 0, .ref q26, .ref q33]) (dk okX3_init 19 rfl) pcX3_25 (Or.inl hm) rfl rfl (Nat.le_of_ble_eq_true rfl) rfl ?_
  exact I_ret (dk okX3_init 20 rfl) rfl hz (fun j => ([0, q8, q26, q33] : List Nat).getD j 0) rfl rfl rfl
set_option maxRecDepth 100000 in
theorem mk_X4 (B : Bx) (h : Nat) : Mk B 1 mX4_init [.ref h] [(h, .inr (4, zX4))] (wX4 B h) 1 41 := by
  refine Mk_I (by decide) (Nat.le_of_ble_eq_true rfl) (fun G hR hm hz => ?_)
  have hm : (gM G).name = "<init>" := hm.symm
  refine I_aload_n (x := h) (dk okX4_init 0 rfl) 0 rfl rfl ?_
  refine I_obj (dk okX4_init 1 rfl) liX4_1 (by decide) ?_
  refine I_aload_n (x := h) (dk okX4_init 2 rfl) 0 rfl rfl ?_
  refine I_bipush (v := 41) (dk okX4_init 3 rfl) (by decide) ?_
  refine I_newa (t := 1) (N := 41) (ty := .int) (a0 := (41, .inl (fun _ => 0))) (dk okX4_init 4 rfl) arr_int rfl rfl (fun _ _ h => h) (fun _ => rfl) (by decide) (by decide) (by decide) (by rw [hR]; exact Nat.le_of_ble_eq_true rfl) (by rw [hR]; exact Nat.le_of_ble_eq_true rfl) (fun q7 => I_cons ?_)
  refine I_put (fs' := [.ref q7, .int 0]) (dk okX4_init 5 rfl) pcX4_9 (Or.inl hm) rfl rfl (Nat.le_of_ble_eq_true rfl) rfl ?_
  refine I_aload_n (x := h) (dk okX4_init 6 rfl) 0 rfl rfl ?_
  refine I_iconst (v := 0) (dk okX4_init 7 rfl) (by decide) ?_
  refine I_put (fs' := [.ref q7, .int 0]) (dk okX4_init 8 rfl) pcX4_15 (Or.inl hm) rfl rfl (Nat.le_of_ble_eq_true rfl) rfl ?_
  exact I_ret (dk okX4_init 9 rfl) rfl hz (fun j => ([0, q7] : List Nat).getD j 0) rfl rfl rfl
set_option maxRecDepth 100000 in
theorem mk_X5 (B : Bx) (h : Nat) : Mk B 2 mX5_init [.ref h] [(h, .inr (5, zX5))] (wX5 B h) 4 125 := by
  refine Mk_I (by decide) (Nat.le_of_ble_eq_true rfl) (fun G hR hm hz => ?_)
  have hm : (gM G).name = "<init>" := hm.symm
  refine I_aload_n (x := h) (dk okX5_init 0 rfl) 0 rfl rfl ?_
  refine I_obj (dk okX5_init 1 rfl) liX5_3 (by decide) ?_
  refine I_aload_n (x := h) (dk okX5_init 2 rfl) 0 rfl rfl ?_
  refine I_bipush (v := 41) (dk okX5_init 3 rfl) (by decide) ?_
  refine I_newa (t := 1) (N := 41) (ty := .int) (a0 := (41, .inl (fun _ => 0))) (dk okX5_init 4 rfl) arr_int rfl rfl (fun _ _ h => h) (fun _ => rfl) (by decide) (by decide) (by decide) (by rw [hR]; exact Nat.le_of_ble_eq_true rfl) (by rw [hR]; exact Nat.le_of_ble_eq_true rfl) (fun q7 => I_cons ?_)
  refine I_put (fs' := [.ref q7, .int 0, .int 0, .null, .null, .int 0, .int 0, .int 0, .int 0]) (dk okX5_init 5 rfl) pcX5_11 (Or.inl hm) rfl rfl (Nat.le_of_ble_eq_true rfl) rfl ?_
  refine I_aload_n (x := h) (dk okX5_init 6 rfl) 0 rfl rfl ?_
  refine I_iconst (v := 0) (dk okX5_init 7 rfl) (by decide) ?_
  refine I_put (fs' := [.ref q7, .int 0, .int 0, .null, .null, .int 0, .int 0, .int 0, .int 0]) (dk okX5_init 8 rfl) pcX5_15 (Or.inl hm) rfl rfl (Nat.le_of_ble_eq_true rfl) rfl ?_
  refine I_aload_n (x := h) (dk okX5_init 9 rfl) 0 rfl rfl ?_
  refine I_iconst (v := 0) (dk okX5_init 10 rfl) (by decide) ?_
  refine I_put (fs' := [.ref q7, .int 0, .int 0, .null, .null, .int 0, .int 0, .int 0, .int 0]) (dk okX5_init 11 rfl) pcX5_19 (Or.inl hm) rfl rfl (Nat.le_of_ble_eq_true rfl) rfl ?_
  refine I_aload_n (x := h) (dk okX5_init 12 rfl) 0 rfl rfl ?_
  refine I_bipush (v := 41) (dk okX5_init 13 rfl) (by decide) ?_
  refine I_newa (t := 1) (N := 41) (ty := .int) (a0 := (41, .inl (fun _ => 0))) (dk okX5_init 14 rfl) arr_int rfl rfl (fun _ _ h => h) (fun _ => rfl) (by decide) (by decide) (by decide) (by rw [hR]; exact Nat.le_of_ble_eq_true rfl) (by rw [hR]; exact Nat.le_of_ble_eq_true rfl) (fun q25 => I_cons ?_)
  refine I_put (fs' := [.ref q7, .int 0, .int 0, .ref q25, .null, .int 0, .int 0, .int 0, .int 0]) (dk okX5_init 15 rfl) pcX5_23 (Or.inl hm) rfl rfl (Nat.le_of_ble_eq_true rfl) rfl ?_
  refine I_aload_n (x := h) (dk okX5_init 16 rfl) 0 rfl rfl ?_
  refine I_new (ci := 4) (fs := zX4) (dk okX5_init 17 rfl) rfl iTX4 tyX4 tyX4_ok clX5_26 insX4 iniX4 dfX4 (by rw [hR]; exact Nat.le_of_ble_eq_true rfl) (by rw [hR]; exact Nat.le_of_ble_eq_true rfl) (fun q31 => ?_)
  refine I_dup (dk okX5_init 18 rfl) rfl ?_
  refine I_callIN (dk okX5_init 19 rfl) mdX4 liX5_28 (Nat.le_of_ble_eq_true rfl) (by decide) (by rw [hR]; exact Nat.le_of_ble_eq_true rfl) (by rw [hR]; exact Nat.le_of_ble_eq_true rfl) (mk_X4 B q31) (fun a35 => I_cons ?_)
  refine I_put (fs' := [.ref q7, .int 0, .int 0, .ref q25, .ref q31, .int 0, .int 0, .int 0, .int 0]) (dk okX5_init 20 rfl) pcX5_29 (Or.inl hm) rfl rfl (Nat.le_of_ble_eq_true rfl) rfl ?_
  refine I_aload_n (x := h) (dk okX5_init 21 rfl) 0 rfl rfl ?_
  refine I_iconst (v := 1) (dk okX5_init 22 rfl) (by decide) ?_
  refine I_put (fs' := [.ref q7, .int 0, .int 0, .ref q25, .ref q31, .int 1, .int 0, .int 0, .int 0]) (dk okX5_init 23 rfl) pcX5_33 (Or.inl hm) rfl rfl (Nat.le_of_ble_eq_true rfl) rfl ?_
  refine I_aload_n (x := h) (dk okX5_init 24 rfl) 0 rfl rfl ?_
  refine I_iconst (v := 0) (dk okX5_init 25 rfl) (by decide) ?_
  refine I_put (fs' := [.ref q7, .int 0, .int 0, .ref q25, .ref q31, .int 1, .int 0, .int 0, .int 0]) (dk okX5_init 26 rfl) pcX5_36 (Or.inl hm) rfl rfl (Nat.le_of_ble_eq_true rfl) rfl ?_
  refine I_aload_n (x := h) (dk okX5_init 27 rfl) 0 rfl rfl ?_
  refine I_iconst (v := 0) (dk okX5_init 28 rfl) (by decide) ?_
  refine I_put (fs' := [.ref q7, .int 0, .int 0, .ref q25, .ref q31, .int 1, .int 0, .int 0, .int 0]) (dk okX5_init 29 rfl) pcX5_39 (Or.inl hm) rfl rfl (Nat.le_of_ble_eq_true rfl) rfl ?_
  refine I_aload_n (x := h) (dk okX5_init 30 rfl) 0 rfl rfl ?_
  refine I_iconst (v := 0) (dk okX5_init 31 rfl) (by decide) ?_
  refine I_put (fs' := [.ref q7, .int 0, .int 0, .ref q25, .ref q31, .int 1, .int 0, .int 0, .int 0]) (dk okX5_init 32 rfl) pcX5_42 (Or.inl hm) rfl rfl (Nat.le_of_ble_eq_true rfl) rfl ?_
  refine I_aload_n (x := h) (dk okX5_init 33 rfl) 0 rfl rfl ?_
  refine I_callV2 (As := []) (st := []) (d' := 1) (dk okX5_init 34 rfl) rfl vkX5_becomeNone li5_45 rfl rfl (Nat.le_of_ble_eq_true rfl) (by decide) (by rw [hR]; exact Nat.le_of_ble_eq_true rfl) (by rw [hR]; exact Nat.le_of_ble_eq_true rfl) mk_none (fun _ => ?_)
  exact I_ret (dk okX5_init 35 rfl) rfl hz (fun j => ([0, q7, q25, q31, (a35 1)] : List Nat).getD j 0) rfl rfl rfl
set_option maxRecDepth 100000 in
theorem mk_X6 (B : Bx) (h : Nat) : Mk B 1 mX6_init [.ref h] [(h, .inr (6, zX6))] (wX6 B h) 3 30 := by
  refine Mk_I (by decide) (Nat.le_of_ble_eq_true rfl) (fun G hR hm hz => ?_)
  have hm : (gM G).name = "<init>" := hm.symm
  refine I_aload_n (x := h) (dk okX6_init 0 rfl) 0 rfl rfl ?_
  refine I_obj (dk okX6_init 1 rfl) liX6_1 (by decide) ?_
  refine I_aload_n (x := h) (dk okX6_init 2 rfl) 0 rfl rfl ?_
  refine I_bipush (v := 10) (dk okX6_init 3 rfl) (by decide) ?_
  refine I_newa (t := 1) (N := 10) (ty := .int) (a0 := (10, .inl (fun _ => 0))) (dk okX6_init 4 rfl) arr_int rfl rfl (fun _ _ h => h) (fun _ => rfl) (by decide) (by decide) (by decide) (by rw [hR]; exact Nat.le_of_ble_eq_true rfl) (by rw [hR]; exact Nat.le_of_ble_eq_true rfl) (fun q7 => I_cons ?_)
  refine I_put (fs' := [.ref q7, .null, .null, .int 0]) (dk okX6_init 5 rfl) pcX6_9 (Or.inl hm) rfl rfl (Nat.le_of_ble_eq_true rfl) rfl ?_
  refine I_aload_n (x := h) (dk okX6_init 6 rfl) 0 rfl rfl ?_
  refine I_bipush (v := 10) (dk okX6_init 7 rfl) (by decide) ?_
  refine I_newa (t := 1) (N := 10) (ty := .int) (a0 := (10, .inl (fun _ => 0))) (dk okX6_init 8 rfl) arr_int rfl rfl (fun _ _ h => h) (fun _ => rfl) (by decide) (by decide) (by decide) (by rw [hR]; exact Nat.le_of_ble_eq_true rfl) (by rw [hR]; exact Nat.le_of_ble_eq_true rfl) (fun q15 => I_cons ?_)
  refine I_put (fs' := [.ref q7, .ref q15, .null, .int 0]) (dk okX6_init 9 rfl) pcX6_13 (Or.inl hm) rfl rfl (Nat.le_of_ble_eq_true rfl) rfl ?_
  refine I_aload_n (x := h) (dk okX6_init 10 rfl) 0 rfl rfl ?_
  refine I_bipush (v := 10) (dk okX6_init 11 rfl) (by decide) ?_
  refine I_newa (t := 1) (N := 10) (ty := .int) (a0 := (10, .inl (fun _ => 0))) (dk okX6_init 12 rfl) arr_int rfl rfl (fun _ _ h => h) (fun _ => rfl) (by decide) (by decide) (by decide) (by rw [hR]; exact Nat.le_of_ble_eq_true rfl) (by rw [hR]; exact Nat.le_of_ble_eq_true rfl) (fun q23 => I_cons ?_)
  refine I_put (fs' := [.ref q7, .ref q15, .ref q23, .int 0]) (dk okX6_init 13 rfl) pcX6_16 (Or.inl hm) rfl rfl (Nat.le_of_ble_eq_true rfl) rfl ?_
  refine I_aload_n (x := h) (dk okX6_init 14 rfl) 0 rfl rfl ?_
  refine I_iconst (v := 0) (dk okX6_init 15 rfl) (by decide) ?_
  refine I_put (fs' := [.ref q7, .ref q15, .ref q23, .int 0]) (dk okX6_init 16 rfl) pcX6_19 (Or.inl hm) rfl rfl (Nat.le_of_ble_eq_true rfl) rfl ?_
  exact I_ret (dk okX6_init 17 rfl) rfl hz (fun j => ([0, q7, q15, q23] : List Nat).getD j 0) rfl rfl rfl
set_option maxRecDepth 100000 in
theorem mk_X7 (B : Bx) (h : Nat) : Mk B 1 mX7_init [.ref h] [(h, .inr (7, zX7))] (wX7 B h) 2 14 := by
  refine Mk_I (by decide) (Nat.le_of_ble_eq_true rfl) (fun G hR hm hz => ?_)
  have hm : (gM G).name = "<init>" := hm.symm
  refine I_aload_n (x := h) (dk okX7_init 0 rfl) 0 rfl rfl ?_
  refine I_obj (dk okX7_init 1 rfl) liX7_3 (by decide) ?_
  refine I_aload_n (x := h) (dk okX7_init 2 rfl) 0 rfl rfl ?_
  refine I_bipush (v := 7) (dk okX7_init 3 rfl) (by decide) ?_
  refine I_newa (t := 1) (N := 7) (ty := .int) (a0 := (7, .inl (fun _ => 0))) (dk okX7_init 4 rfl) arr_int rfl rfl (fun _ _ h => h) (fun _ => rfl) (by decide) (by decide) (by decide) (by rw [hR]; exact Nat.le_of_ble_eq_true rfl) (by rw [hR]; exact Nat.le_of_ble_eq_true rfl) (fun q7 => I_cons ?_)
  refine I_put (fs' := [.ref q7, .null]) (dk okX7_init 5 rfl) pcX7_9 (Or.inl hm) rfl rfl (Nat.le_of_ble_eq_true rfl) rfl ?_
  refine I_aload_n (x := h) (dk okX7_init 6 rfl) 0 rfl rfl ?_
  refine I_bipush (v := 7) (dk okX7_init 7 rfl) (by decide) ?_
  refine I_newa (t := 1) (N := 7) (ty := .int) (a0 := (7, .inl (fun _ => 0))) (dk okX7_init 8 rfl) arr_int rfl rfl (fun _ _ h => h) (fun _ => rfl) (by decide) (by decide) (by decide) (by rw [hR]; exact Nat.le_of_ble_eq_true rfl) (by rw [hR]; exact Nat.le_of_ble_eq_true rfl) (fun q15 => I_cons ?_)
  refine I_put (fs' := [.ref q7, .ref q15]) (dk okX7_init 9 rfl) pcX7_15 (Or.inl hm) rfl rfl (Nat.le_of_ble_eq_true rfl) rfl ?_
  exact I_ret (dk okX7_init 10 rfl) rfl hz (fun j => ([0, q7, q15] : List Nat).getD j 0) rfl rfl rfl
set_option maxRecDepth 100000 in
theorem mk_X8 (B : Bx) (h : Nat) : Mk B 1 mX8_init [.ref h] [(h, .inr (8, zX8))] (wX8 B h) 1 7 := by
  refine Mk_I (by decide) (Nat.le_of_ble_eq_true rfl) (fun G hR hm hz => ?_)
  have hm : (gM G).name = "<init>" := hm.symm
  refine I_aload_n (x := h) (dk okX8_init 0 rfl) 0 rfl rfl ?_
  refine I_obj (dk okX8_init 1 rfl) liX8_3 (by decide) ?_
  refine I_aload_n (x := h) (dk okX8_init 2 rfl) 0 rfl rfl ?_
  refine I_bipush (v := 7) (dk okX8_init 3 rfl) (by decide) ?_
  refine I_newa (t := 1) (N := 7) (ty := .int) (a0 := (7, .inl (fun _ => 0))) (dk okX8_init 4 rfl) arr_int rfl rfl (fun _ _ h => h) (fun _ => rfl) (by decide) (by decide) (by decide) (by rw [hR]; exact Nat.le_of_ble_eq_true rfl) (by rw [hR]; exact Nat.le_of_ble_eq_true rfl) (fun q7 => I_cons ?_)
  refine I_put (fs' := [.ref q7, .int 0, .int 0, .int 0, .int 0]) (dk okX8_init 5 rfl) pcX8_9 (Or.inl hm) rfl rfl (Nat.le_of_ble_eq_true rfl) rfl ?_
  refine I_aload_n (x := h) (dk okX8_init 6 rfl) 0 rfl rfl ?_
  refine I_iconst (v := 0) (dk okX8_init 7 rfl) (by decide) ?_
  refine I_put (fs' := [.ref q7, .int 0, .int 0, .int 0, .int 0]) (dk okX8_init 8 rfl) pcX8_15 (Or.inl hm) rfl rfl (Nat.le_of_ble_eq_true rfl) rfl ?_
  refine I_aload_n (x := h) (dk okX8_init 9 rfl) 0 rfl rfl ?_
  refine I_iconst (v := 0) (dk okX8_init 10 rfl) (by decide) ?_
  refine I_put (fs' := [.ref q7, .int 0, .int 0, .int 0, .int 0]) (dk okX8_init 11 rfl) pcX8_19 (Or.inl hm) rfl rfl (Nat.le_of_ble_eq_true rfl) rfl ?_
  refine I_aload_n (x := h) (dk okX8_init 12 rfl) 0 rfl rfl ?_
  refine I_iconst (v := 0) (dk okX8_init 13 rfl) (by decide) ?_
  refine I_put (fs' := [.ref q7, .int 0, .int 0, .int 0, .int 0]) (dk okX8_init 14 rfl) pcX8_22 (Or.inl hm) rfl rfl (Nat.le_of_ble_eq_true rfl) rfl ?_
  refine I_aload_n (x := h) (dk okX8_init 15 rfl) 0 rfl rfl ?_
  refine I_iconst (v := 0) (dk okX8_init 16 rfl) (by decide) ?_
  refine I_put (fs' := [.ref q7, .int 0, .int 0, .int 0, .int 0]) (dk okX8_init 17 rfl) pcX8_25 (Or.inl hm) rfl rfl (Nat.le_of_ble_eq_true rfl) rfl ?_
  exact I_ret (dk okX8_init 18 rfl) rfl hz (fun j => ([0, q7] : List Nat).getD j 0) rfl rfl rfl
set_option maxRecDepth 100000 in
theorem mk_X9 (B : Bx) (h : Nat) : Mk B 1 mX9_init [.ref h] [(h, .inr (9, zX9))] (wX9 B h) 1 80 := by
  refine Mk_I (by decide) (Nat.le_of_ble_eq_true rfl) (fun G hR hm hz => ?_)
  have hm : (gM G).name = "<init>" := hm.symm
  refine I_aload_n (x := h) (dk okX9_init 0 rfl) 0 rfl rfl ?_
  refine I_obj (dk okX9_init 1 rfl) liX9_3 (by decide) ?_
  refine I_aload_n (x := h) (dk okX9_init 2 rfl) 0 rfl rfl ?_
  refine I_bipush (v := 80) (dk okX9_init 3 rfl) (by decide) ?_
  refine I_newa (t := 0) (N := 80) (ty := .char) (a0 := (80, .inl (fun _ => 0))) (dk okX9_init 4 rfl) arr_char rfl rfl (fun _ _ h => h) (fun _ => rfl) (by decide) (by decide) (by decide) (by rw [hR]; exact Nat.le_of_ble_eq_true rfl) (by rw [hR]; exact Nat.le_of_ble_eq_true rfl) (fun q7 => I_cons ?_)
  refine I_put (fs' := [.ref q7, .int 0]) (dk okX9_init 5 rfl) pcX9_11 (Or.inl hm) rfl rfl (Nat.le_of_ble_eq_true rfl) rfl ?_
  refine I_aload_n (x := h) (dk okX9_init 6 rfl) 0 rfl rfl ?_
  refine I_iconst (v := 0) (dk okX9_init 7 rfl) (by decide) ?_
  refine I_put (fs' := [.ref q7, .int 0]) (dk okX9_init 8 rfl) pcX9_15 (Or.inl hm) rfl rfl (Nat.le_of_ble_eq_true rfl) rfl ?_
  exact I_ret (dk okX9_init 9 rfl) rfl hz (fun j => ([0, q7] : List Nat).getD j 0) rfl rfl rfl
set_option maxRecDepth 100000 in
theorem mk_X10 (B : Bx) (h : Nat) : Mk B 1 mX10_init [.ref h] [(h, .inr (10, zX10))] (wX10 B h) 1 16 := by
  refine Mk_I (by decide) (Nat.le_of_ble_eq_true rfl) (fun G hR hm hz => ?_)
  have hm : (gM G).name = "<init>" := hm.symm
  refine I_aload_n (x := h) (dk okX10_init 0 rfl) 0 rfl rfl ?_
  refine I_obj (dk okX10_init 1 rfl) liX10_1 (by decide) ?_
  refine I_aload_n (x := h) (dk okX10_init 2 rfl) 0 rfl rfl ?_
  refine I_bipush (v := 16) (dk okX10_init 3 rfl) (by decide) ?_
  refine I_newa (t := 2) (N := 16) (ty := .long) (a0 := (16, .inr (.inl (fun _ => 0)))) (dk okX10_init 4 rfl) arr_long rfl rfl (fun _ _ h => h) (fun _ => rfl) (by decide) (by decide) (by decide) (by rw [hR]; exact Nat.le_of_ble_eq_true rfl) (by rw [hR]; exact Nat.le_of_ble_eq_true rfl) (fun q7 => I_cons ?_)
  refine I_put (fs' := [.ref q7, .int 0]) (dk okX10_init 5 rfl) pcX10_9 (Or.inl hm) rfl rfl (Nat.le_of_ble_eq_true rfl) rfl ?_
  refine I_aload_n (x := h) (dk okX10_init 6 rfl) 0 rfl rfl ?_
  refine I_iconst (v := 0) (dk okX10_init 7 rfl) (by decide) ?_
  refine I_put (fs' := [.ref q7, .int 0]) (dk okX10_init 8 rfl) pcX10_13 (Or.inl hm) rfl rfl (Nat.le_of_ble_eq_true rfl) rfl ?_
  exact I_ret (dk okX10_init 9 rfl) rfl hz (fun j => ([0, q7] : List Nat).getD j 0) rfl rfl rfl
set_option maxRecDepth 100000 in
theorem mk_X11 (B : Bx) (h : Nat) : Mk B 3 mX11_init [.ref h] [(h, .inr (11, zX11))] (wX11 B h) 48 1507 := by
  refine Mk_I (by decide) (Nat.le_of_ble_eq_true rfl) (fun G hR hm hz => ?_)
  have hm : (gM G).name = "<init>" := hm.symm
  refine I_aload_n (x := h) (dk okX11_init 0 rfl) 0 rfl rfl ?_
  refine I_obj (dk okX11_init 1 rfl) liX11_3 (by decide) ?_
  refine I_aload_n (x := h) (dk okX11_init 2 rfl) 0 rfl rfl ?_
  refine I_new (ci := 1) (fs := zX1) (dk okX11_init 3 rfl) rfl iTX1 tyX1 tyX1_ok clX11_9 insX1 iniX1 dfX1 (by rw [hR]; exact Nat.le_of_ble_eq_true rfl) (by rw [hR]; exact Nat.le_of_ble_eq_true rfl) (fun q5 => ?_)
  refine I_dup (dk okX11_init 4 rfl) rfl ?_
  refine I_callIN (dk okX11_init 5 rfl) mdX1 liX11_11 (Nat.le_of_ble_eq_true rfl) (by decide) (by rw [hR]; exact Nat.le_of_ble_eq_true rfl) (by rw [hR]; exact Nat.le_of_ble_eq_true rfl) (mk_X1 B q5) (fun a9 => I_cons ?_)
  refine I_put (fs' := [.ref q5, .null, .null, .null, .null, .null, .null, .null, .null, .null, .null, .null, .null, .null, .null]) (dk okX11_init 6 rfl) pcX11_12 (Or.inl hm) rfl rfl (Nat.le_of_ble_eq_true rfl) rfl ?_
  refine I_aload_n (x := h) (dk okX11_init 7 rfl) 0 rfl rfl ?_
  refine I_new (ci := 1) (fs := zX1) (dk okX11_init 8 rfl) rfl iTX1 tyX1 tyX1_ok clX11_9 insX1 iniX1 dfX1 (by rw [hR]; exact Nat.le_of_ble_eq_true rfl) (by rw [hR]; exact Nat.le_of_ble_eq_true rfl) (fun q16 => ?_)
  refine I_dup (dk okX11_init 9 rfl) rfl ?_
  refine I_callIN (dk okX11_init 10 rfl) mdX1 liX11_11 (Nat.le_of_ble_eq_true rfl) (by decide) (by rw [hR]; exact Nat.le_of_ble_eq_true rfl) (by rw [hR]; exact Nat.le_of_ble_eq_true rfl) (mk_X1 B q16) (fun a20 => I_cons ?_)
  refine I_put (fs' := [.ref q5, .ref q16, .null, .null, .null, .null, .null, .null, .null, .null, .null, .null, .null, .null, .null]) (dk okX11_init 11 rfl) pcX11_16 (Or.inl hm) rfl rfl (Nat.le_of_ble_eq_true rfl) rfl ?_
  refine I_aload_n (x := h) (dk okX11_init 12 rfl) 0 rfl rfl ?_
  refine I_new (ci := 5) (fs := zX5) (dk okX11_init 13 rfl) rfl iTX5 tyX5 tyX5_ok clX11_19 insX5 iniX5 dfX5 (by rw [hR]; exact Nat.le_of_ble_eq_true rfl) (by rw [hR]; exact Nat.le_of_ble_eq_true rfl) (fun q27 => ?_)
  refine I_dup (dk okX11_init 14 rfl) rfl ?_
  refine I_callI (dk okX11_init 15 rfl) mdX5 liX11_21 (Nat.le_of_ble_eq_true rfl) (by decide) (by rw [hR]; exact Nat.le_of_ble_eq_true rfl) (by rw [hR]; exact Nat.le_of_ble_eq_true rfl) (mk_X5 B q27) (fun a31 => I_cons ?_)
  refine I_put (fs' := [.ref q5, .ref q16, .ref q27, .null, .null, .null, .null, .null, .null, .null, .null, .null, .null, .null, .null]) (dk okX11_init 16 rfl) pcX11_22 (Or.inl hm) rfl rfl (Nat.le_of_ble_eq_true rfl) rfl ?_
  refine I_aload_n (x := h) (dk okX11_init 17 rfl) 0 rfl rfl ?_
  refine I_new (ci := 5) (fs := zX5) (dk okX11_init 18 rfl) rfl iTX5 tyX5 tyX5_ok clX11_19 insX5 iniX5 dfX5 (by rw [hR]; exact Nat.le_of_ble_eq_true rfl) (by rw [hR]; exact Nat.le_of_ble_eq_true rfl) (fun q38 => ?_)
  refine I_dup (dk okX11_init 19 rfl) rfl ?_
  refine I_callI (dk okX11_init 20 rfl) mdX5 liX11_21 (Nat.le_of_ble_eq_true rfl) (by decide) (by rw [hR]; exact Nat.le_of_ble_eq_true rfl) (by rw [hR]; exact Nat.le_of_ble_eq_true rfl) (mk_X5 B q38) (fun a42 => I_cons ?_)
  refine I_put (fs' := [.ref q5, .ref q16, .ref q27, .ref q38, .null, .null, .null, .null, .null, .null, .null, .null, .null, .null, .null]) (dk okX11_init 21 rfl) pcX11_26 (Or.inl hm) rfl rfl (Nat.le_of_ble_eq_true rfl) rfl ?_
  refine I_aload_n (x := h) (dk okX11_init 22 rfl) 0 rfl rfl ?_
  refine I_new (ci := 9) (fs := zX9) (dk okX11_init 23 rfl) rfl iTX9 tyX9 tyX9_ok clX11_29 insX9 iniX9 dfX9 (by rw [hR]; exact Nat.le_of_ble_eq_true rfl) (by rw [hR]; exact Nat.le_of_ble_eq_true rfl) (fun q49 => ?_)
  refine I_dup (dk okX11_init 24 rfl) rfl ?_
  refine I_callIN (dk okX11_init 25 rfl) mdX9 liX11_31 (Nat.le_of_ble_eq_true rfl) (by decide) (by rw [hR]; exact Nat.le_of_ble_eq_true rfl) (by rw [hR]; exact Nat.le_of_ble_eq_true rfl) (mk_X9 B q49) (fun a53 => I_cons ?_)
  refine I_put (fs' := [.ref q5, .ref q16, .ref q27, .ref q38, .ref q49, .null, .null, .null, .null, .null, .null, .null, .null, .null, .null]) (dk okX11_init 26 rfl) pcX11_32 (Or.inl hm) rfl rfl (Nat.le_of_ble_eq_true rfl) rfl ?_
  refine I_aload_n (x := h) (dk okX11_init 27 rfl) 0 rfl rfl ?_
  refine I_new (ci := 10) (fs := zX10) (dk okX11_init 28 rfl) rfl iTX10 tyX10 tyX10_ok clX11_36 insX10 iniX10 dfX10 (by rw [hR]; exact Nat.le_of_ble_eq_true rfl) (by rw [hR]; exact Nat.le_of_ble_eq_true rfl) (fun q60 => ?_)
  refine I_dup (dk okX11_init 29 rfl) rfl ?_
  refine I_callIN (dk okX11_init 30 rfl) mdX10 liX11_38 (Nat.le_of_ble_eq_true rfl) (by decide) (by rw [hR]; exact Nat.le_of_ble_eq_true rfl) (by rw [hR]; exact Nat.le_of_ble_eq_true rfl) (mk_X10 B q60) (fun a64 => I_cons ?_)
  refine I_put (fs' := [.ref q5, .ref q16, .ref q27, .ref q38, .ref q49, .ref q60, .null, .null, .null, .null, .null, .null, .null, .null, .null]) (dk okX11_init 31 rfl) pcX11_39 (Or.inl hm) rfl rfl (Nat.le_of_ble_eq_true rfl) rfl ?_
  refine I_aload_n (x := h) (dk okX11_init 32 rfl) 0 rfl rfl ?_
  refine I_new (ci := 3) (fs := zX3) (dk okX11_init 33 rfl) rfl iTX3 tyX3 tyX3_ok clX11_43 insX3 iniX3 dfX3 (by rw [hR]; exact Nat.le_of_ble_eq_true rfl) (by rw [hR]; exact Nat.le_of_ble_eq_true rfl) (fun q71 => ?_)
  refine I_dup (dk okX11_init 34 rfl) rfl ?_
  refine I_callIN (dk okX11_init 35 rfl) mdX3 liX11_45 (Nat.le_of_ble_eq_true rfl) (by decide) (by rw [hR]; exact Nat.le_of_ble_eq_true rfl) (by rw [hR]; exact Nat.le_of_ble_eq_true rfl) (mk_X3 B q71) (fun a75 => I_cons ?_)
  refine I_put (fs' := [.ref q5, .ref q16, .ref q27, .ref q38, .ref q49, .ref q60, .ref q71, .null, .null, .null, .null, .null, .null, .null, .null]) (dk okX11_init 36 rfl) pcX11_46 (Or.inl hm) rfl rfl (Nat.le_of_ble_eq_true rfl) rfl ?_
  refine I_aload_n (x := h) (dk okX11_init 37 rfl) 0 rfl rfl ?_
  refine I_new (ci := 8) (fs := zX8) (dk okX11_init 38 rfl) rfl iTX8 tyX8 tyX8_ok clX11_50 insX8 iniX8 dfX8 (by rw [hR]; exact Nat.le_of_ble_eq_true rfl) (by rw [hR]; exact Nat.le_of_ble_eq_true rfl) (fun q82 => ?_)
  refine I_dup (dk okX11_init 39 rfl) rfl ?_
  refine I_callIN (dk okX11_init 40 rfl) mdX8 liX11_52 (Nat.le_of_ble_eq_true rfl) (by decide) (by rw [hR]; exact Nat.le_of_ble_eq_true rfl) (by rw [hR]; exact Nat.le_of_ble_eq_true rfl) (mk_X8 B q82) (fun a86 => I_cons ?_)
  refine I_put (fs' := [.ref q5, .ref q16, .ref q27, .ref q38, .ref q49, .ref q60, .ref q71, .ref q82, .null, .null, .null, .null, .null, .null, .null]) (dk okX11_init 41 rfl) pcX11_53 (Or.inl hm) rfl rfl (Nat.le_of_ble_eq_true rfl) rfl ?_
  refine I_aload_n (x := h) (dk okX11_init 42 rfl) 0 rfl rfl ?_
  refine I_new (ci := 7) (fs := zX7) (dk okX11_init 43 rfl) rfl iTX7 tyX7 tyX7_ok clX11_57 insX7 iniX7 dfX7 (by rw [hR]; exact Nat.le_of_ble_eq_true rfl) (by rw [hR]; exact Nat.le_of_ble_eq_true rfl) (fun q93 => ?_)
  refine I_dup (dk okX11_init 44 rfl) rfl ?_
  refine I_callIN (dk okX11_init 45 rfl) mdX7 liX11_59 (Nat.le_of_ble_eq_true rfl) (by decide) (by rw [hR]; exact Nat.le_of_ble_eq_true rfl) (by rw [hR]; exact Nat.le_of_ble_eq_true rfl) (mk_X7 B q93) (fun a97 => I_cons ?_)
  refine I_put (fs' := [.ref q5, .ref q16, .ref q27, .ref q38, .ref q49, .ref q60, .ref q71, .ref q82, .ref q93, .null, .null, .null, .null, .null, .null]) (dk okX11_init 46 rfl) pcX11_60 (Or.inl hm) rfl rfl (Nat.le_of_ble_eq_true rfl) rfl ?_
  refine I_aload_n (x := h) (dk okX11_init 47 rfl) 0 rfl rfl ?_
  refine I_new (ci := 6) (fs := zX6) (dk okX11_init 48 rfl) rfl iTX6 tyX6 tyX6_ok clX11_64 insX6 iniX6 dfX6 (by rw [hR]; exact Nat.le_of_ble_eq_true rfl) (by rw [hR]; exact Nat.le_of_ble_eq_true rfl) (fun q104 => ?_)
  refine I_dup (dk okX11_init 49 rfl) rfl ?_
  refine I_callIN (dk okX11_init 50 rfl) mdX6 liX11_66 (Nat.le_of_ble_eq_true rfl) (by decide) (by rw [hR]; exact Nat.le_of_ble_eq_true rfl) (by rw [hR]; exact Nat.le_of_ble_eq_true rfl) (mk_X6 B q104) (fun a108 => I_cons ?_)
  refine I_put (fs' := [.ref q5, .ref q16, .ref q27, .ref q38, .ref q49, .ref q60, .ref q71, .ref q82, .ref q93, .ref q104, .null, .null, .null, .null, .null]) (dk okX11_init 51 rfl) pcX11_67 (Or.inl hm) rfl rfl (Nat.le_of_ble_eq_true rfl) rfl ?_
  refine I_aload_n (x := h) (dk okX11_init 52 rfl) 0 rfl rfl ?_
  refine I_new (ci := 2) (fs := zX2) (dk okX11_init 53 rfl) rfl iTX2 tyX2 tyX2_ok clX11_71 insX2 iniX2 dfX2 (by rw [hR]; exact Nat.le_of_ble_eq_true rfl) (by rw [hR]; exact Nat.le_of_ble_eq_true rfl) (fun q115 => ?_)
  refine I_dup (dk okX11_init 54 rfl) rfl ?_
  refine I_callIN (dk okX11_init 55 rfl) mdX2 liX11_73 (Nat.le_of_ble_eq_true rfl) (by decide) (by rw [hR]; exact Nat.le_of_ble_eq_true rfl) (by rw [hR]; exact Nat.le_of_ble_eq_true rfl) (mk_X2 B q115) (fun a119 => I_cons ?_)
  refine I_put (fs' := [.ref q5, .ref q16, .ref q27, .ref q38, .ref q49, .ref q60, .ref q71, .ref q82, .ref q93, .ref q104, .ref q115, .null, .null, .null, .null]) (dk okX11_init 56 rfl) pcX11_74 (Or.inl hm) rfl rfl (Nat.le_of_ble_eq_true rfl) rfl ?_
  refine I_aload_n (x := h) (dk okX11_init 57 rfl) 0 rfl rfl ?_
  refine I_new (ci := 0) (fs := zX0) (dk okX11_init 58 rfl) rfl iTX0 tyX0 tyX0_ok clX11_78 insX0 iniX0 dfX0 (by rw [hR]; exact Nat.le_of_ble_eq_true rfl) (by rw [hR]; exact Nat.le_of_ble_eq_true rfl) (fun q126 => ?_)
  refine I_dup (dk okX11_init 59 rfl) rfl ?_
  refine I_callIN (dk okX11_init 60 rfl) mdX0 liX11_80 (Nat.le_of_ble_eq_true rfl) (by decide) (by rw [hR]; exact Nat.le_of_ble_eq_true rfl) (by rw [hR]; exact Nat.le_of_ble_eq_true rfl) (mk_X0 B q126) (fun a130 => I_cons ?_)
  refine I_put (fs' := [.ref q5, .ref q16, .ref q27, .ref q38, .ref q49, .ref q60, .ref q71, .ref q82, .ref q93, .ref q104, .ref q115, .ref q126, .null, .null, .null]) (dk okX11_init 61 rfl) pcX11_81 (Or.inl hm) rfl rfl (Nat.le_of_ble_eq_true rfl) rfl ?_
  refine I_aload_n (x := h) (dk okX11_init 62 rfl) 0 rfl rfl ?_
  refine I_bipush (v := 21) (dk okX11_init 63 rfl) (by decide) ?_
  refine I_newa (t := 1) (N := 21) (ty := .int) (a0 := (21, .inl (fun _ => 0))) (dk okX11_init 64 rfl) arr_int rfl rfl (fun _ _ h => h) (fun _ => rfl) (by decide) (by decide) (by decide) (by rw [hR]; exact Nat.le_of_ble_eq_true rfl) (by rw [hR]; exact Nat.le_of_ble_eq_true rfl) (fun q139 => I_cons ?_)
  refine I_put (fs' := [.ref q5, .ref q16, .ref q27, .ref q38, .ref q49, .ref q60, .ref q71, .ref q82, .ref q93, .ref q104, .ref q115, .ref q126, .ref q139, .null, .null]) (dk okX11_init 65 rfl) pcX11_85 (Or.inl hm) rfl rfl (Nat.le_of_ble_eq_true rfl) rfl ?_
  refine I_aload_n (x := h) (dk okX11_init 66 rfl) 0 rfl rfl ?_
  refine I_sipush (v := 399) (dk okX11_init 67 rfl) (by decide) ?_
  refine I_newa (t := 1) (N := 399) (ty := .int) (a0 := (399, .inl (fun _ => 0))) (dk okX11_init 68 rfl) arr_int rfl rfl (fun _ _ h => h) (fun _ => rfl) (by decide) (by decide) (by decide) (by rw [hR]; exact Nat.le_of_ble_eq_true rfl) (by rw [hR]; exact Nat.le_of_ble_eq_true rfl) (fun q148 => I_cons ?_)
  refine I_put (fs' := [.ref q5, .ref q16, .ref q27, .ref q38, .ref q49, .ref q60, .ref q71, .ref q82, .ref q93, .ref q104, .ref q115, .ref q126, .ref q139, .ref q148, .null]) (dk okX11_init 69 rfl) pcX11_89 (Or.inl hm) rfl rfl (Nat.le_of_ble_eq_true rfl) rfl ?_
  refine I_aload_n (x := h) (dk okX11_init 70 rfl) 0 rfl rfl ?_
  refine I_bipush (v := 61) (dk okX11_init 71 rfl) (by decide) ?_
  refine I_newa (t := 1) (N := 61) (ty := .int) (a0 := (61, .inl (fun _ => 0))) (dk okX11_init 72 rfl) arr_int rfl rfl (fun _ _ h => h) (fun _ => rfl) (by decide) (by decide) (by decide) (by rw [hR]; exact Nat.le_of_ble_eq_true rfl) (by rw [hR]; exact Nat.le_of_ble_eq_true rfl) (fun q156 => I_cons ?_)
  refine I_put (fs' := [.ref q5, .ref q16, .ref q27, .ref q38, .ref q49, .ref q60, .ref q71, .ref q82, .ref q93, .ref q104, .ref q115, .ref q126, .ref q139, .ref q148, .ref q156]) (dk okX11_init 73 rfl) pcX11_92 (Or.inl hm) rfl rfl (Nat.le_of_ble_eq_true rfl) rfl ?_
  exact I_ret (dk okX11_init 74 rfl) rfl hz (fun j => ([0, q5, (a9 1), (a9 2), (a9 3), (a9 4), (a9 5), (a9 6), q16, (a20 1), (a20 2), (a20 3), (a20 4), (a20 5), (a20 6), q27, (a31 1), (a31 2), (a31 3), (a31 4), q38, (a42 1), (a42 2), (a42 3), (a42 4), q49, (a53 1), q60, (a64 1), q71, (a75 1), (a75 2), (a75 3), q82, (a86 1), q93, (a97 1), (a97 2), q104, (a108 1), (a108 2), (a108 3), q115, (a119 1), (a119 2), q126, q139, q148, q156] : List Nat).getD j 0) rfl rfl rfl

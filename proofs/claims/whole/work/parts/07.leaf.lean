/-- java/lang/String.coder()B -/
def v_J0_coder_7d493 (b : Nat) : Int32 := 0
set_option maxRecDepth 20000 in
set_option maxHeartbeats 4000000 in
theorem con_J0_coder_7d493 {E : Ex} {Q : Option Value → Mm → Prop} {b : Nat} {μ : Mm} (hb : b < strN) (k : Q (some (.int (v_J0_coder_7d493 b))) μ) : Con E 1 mJ0_coder_7d493 [sf E b] μ Q := by
  refine Con_J (by decide +kernel) (Nat.le_of_ble_eq_true rfl) (fun G => ?_)
  unfold v_J0_coder_7d493 at k
  refine J_sub (ls' := [(0, sf E b)]) [0] rfl ?_
  refine J_gets1 (dk okJ0_coder_7d493 0 rfl) kfJ0_38 ?_
  refine J_if_eq (tgt := 13) (dk okJ0_coder_7d493 1 rfl) (by decide) (fun h2 => absurd h2 (by decide)) (fun h2 => ?_)
  refine J_aload_nS (dk okJ0_coder_7d493 2 rfl) 0 rfl rfl ?_
  refine J_getC (dk okJ0_coder_7d493 3 rfl) kfJ0_15 hb ?_
  refine J_goto (tgt := 14) (dk okJ0_coder_7d493 4 rfl) (by decide) ?_
  exact J_zret (dk okJ0_coder_7d493 6 rfl) rfl rfl k
/-- java/lang/String.isLatin1()Z -/
def v_J0_isLatin1_aae02 (b : Nat) : Int32 := 1
set_option maxRecDepth 20000 in
set_option maxHeartbeats 4000000 in
theorem con_J0_isLatin1_aae02 {E : Ex} {Q : Option Value → Mm → Prop} {b : Nat} {μ : Mm} (hb : b < strN) (k : Q (some (.int (v_J0_isLatin1_aae02 b))) μ) : Con E 1 mJ0_isLatin1_aae02 [sf E b] μ Q := by
  refine Con_J (by decide +kernel) (Nat.le_of_ble_eq_true rfl) (fun G => ?_)
  unfold v_J0_isLatin1_aae02 at k
  refine J_sub (ls' := [(0, sf E b)]) [0] rfl ?_
  refine J_gets1 (dk okJ0_isLatin1_aae02 0 rfl) kfJ0_38 ?_
  refine J_if_eq (tgt := 17) (dk okJ0_isLatin1_aae02 1 rfl) (by decide) (fun h3 => absurd h3 (by decide)) (fun h3 => ?_)
  refine J_aload_nS (dk okJ0_isLatin1_aae02 2 rfl) 0 rfl rfl ?_
  refine J_getC (dk okJ0_isLatin1_aae02 3 rfl) kfJ0_15 hb ?_
  refine J_if_ne (tgt := 17) (dk okJ0_isLatin1_aae02 4 rfl) (by decide) (fun h5 => absurd h5 (by decide)) (fun h5 => ?_)
  refine J_iconst (v := 1) (dk okJ0_isLatin1_aae02 5 rfl) (by decide) ?_
  refine J_goto (tgt := 18) (dk okJ0_isLatin1_aae02 6 rfl) (by decide) ?_
  exact J_zret (dk okJ0_isLatin1_aae02 8 rfl) rfl rfl k
theorem nb_J0_isLatin1_aae02 (b : Nat) : narrow .boolean (.int (v_J0_isLatin1_aae02 b)) = .int (v_J0_isLatin1_aae02 b) := by
  unfold v_J0_isLatin1_aae02; (repeat' split) <;> rfl
/-- java/lang/StringLatin1.canEncode(I)Z -/
def v_J1_canEncode_9a6ad (p0 : Int32) : Int32 := (if p0 < 0 then 0 else (if 255 < p0 then 0 else 1 : Int32) : Int32)
set_option maxRecDepth 20000 in
set_option maxHeartbeats 4000000 in
theorem con_J1_canEncode_9a6ad {E : Ex} {Q : Option Value → Mm → Prop} {p0 : Int32} {μ : Mm} (k : Q (some (.int (v_J1_canEncode_9a6ad p0))) μ) : Con E 1 mJ1_canEncode_9a6ad [.int p0] μ Q := by
  refine Con_J (by decide +kernel) (Nat.le_of_ble_eq_true rfl) (fun G => ?_)
  unfold v_J1_canEncode_9a6ad at k
  refine J_sub (ls' := [(0, .int p0)]) [0] rfl ?_
  refine J_iload_n (dk okJ1_canEncode_9a6ad 0 rfl) 0 rfl rfl ?_
  have K3 : J E G 1 mJ1_canEncode_9a6ad Q 16 [] [.int (if p0 < 0 then 0 else (if 255 < p0 then 0 else 1 : Int32) : Int32)] μ := by
    exact J_zret (dk okJ1_canEncode_9a6ad 8 rfl) rfl (by (repeat' split) <;> first | rfl | (simp only [*]; rfl)) k
  refine J_if_lt (tgt := 15) (dk okJ1_canEncode_9a6ad 1 rfl) (by decide) (fun h1 => ?_) (fun h1 => ?_)
  · refine J_iconst (v := 0) (dk okJ1_canEncode_9a6ad 7 rfl) (by decide) ?_
    refine J_sub (ls' := []) [] rfl ?_
    (try simp only [if_pos h1] at K3 ⊢); exact K3
  · refine J_iload_n (dk okJ1_canEncode_9a6ad 2 rfl) 0 rfl rfl ?_
    refine J_sipush (v := 255) (dk okJ1_canEncode_9a6ad 3 rfl) (by decide) ?_
    refine J_icmp_gt (tgt := 15) (dk okJ1_canEncode_9a6ad 4 rfl) (by decide) (fun h2 => ?_) (fun h2 => ?_)
    · refine J_iconst (v := 0) (dk okJ1_canEncode_9a6ad 7 rfl) (by decide) ?_
      refine J_sub (ls' := []) [] rfl ?_
      (try simp only [if_neg h1, if_pos h2] at K3 ⊢); exact K3
    · refine J_iconst (v := 1) (dk okJ1_canEncode_9a6ad 5 rfl) (by decide) ?_
      refine J_goto (tgt := 16) (dk okJ1_canEncode_9a6ad 6 rfl) (by decide) ?_
      refine J_sub (ls' := []) [] rfl ?_
      (try simp only [if_neg h1, if_neg h2] at K3 ⊢); exact K3
theorem nb_J1_canEncode_9a6ad (p0 : Int32) : narrow .boolean (.int (v_J1_canEncode_9a6ad p0)) = .int (v_J1_canEncode_9a6ad p0) := by
  unfold v_J1_canEncode_9a6ad; (repeat' split) <;> rfl
/-- jdk/internal/util/Preconditions.checkIndex(IILjava/util/function/BiFunction;)I -/
def v_J3_checkIndex_8e157 (p0 : Int32) (p1 : Int32) : Int32 := p0
def p_J3_checkIndex_8e157 (p0 : Int32) (p1 : Int32)  : Prop := ((p0 < 0 → False) ∧ (¬ (p0 < 0) → (¬ (p0 < p1) → False)))
set_option maxRecDepth 20000 in
set_option maxHeartbeats 4000000 in
theorem con_J3_checkIndex_8e157 {E : Ex} {Q : Option Value → Mm → Prop} {p0 : Int32} {p1 : Int32} {p2 : Option Nat} {μ : Mm} (t : p_J3_checkIndex_8e157 p0 p1 ) (k : Q (some (.int (v_J3_checkIndex_8e157 p0 p1))) μ) : Con E 1 mJ3_checkIndex_8e157 [.int p0, .int p1, va_rf p2] μ Q := by
  refine Con_J (by decide +kernel) (by cases p2 <;> exact Nat.le_of_ble_eq_true rfl) (fun G => ?_)
  unfold v_J3_checkIndex_8e157 at k
  unfold p_J3_checkIndex_8e157 at t
  refine J_sub (ls' := [(0, .int p0), (1, .int p1), (2, va_rf p2)]) [0, 1, 2] rfl ?_
  refine J_iload_n (dk okJ3_checkIndex_8e157 0 rfl) 0 rfl rfl ?_
  refine J_if_lt (tgt := 9) (dk okJ3_checkIndex_8e157 1 rfl) (by decide) (fun h1 => ?_) (fun h1 => ?_)
  · have t := t.1 h1
    exact t.elim
  · have t := t.2 h1
    refine J_iload_n (dk okJ3_checkIndex_8e157 2 rfl) 0 rfl rfl ?_
    refine J_iload_n (dk okJ3_checkIndex_8e157 3 rfl) 1 rfl rfl ?_
    refine J_icmp_lt (tgt := 16) (dk okJ3_checkIndex_8e157 4 rfl) (by decide) (fun h2 => ?_) (fun h2 => ?_)
    · refine J_iload_n (dk okJ3_checkIndex_8e157 10 rfl) 0 rfl rfl ?_
      (try simp only [if_neg h1, if_pos h2] at k ⊢)
      exact J_iret (dk okJ3_checkIndex_8e157 11 rfl) rfl k
    · have t := t h2
      exact t.elim
/-- java/lang/Integer.bitCount(I)I -/
def v_J6_bitCount_0f7a4 (p0 : Int32) : Int32 := ((((((((p0 - ((Int32.toUInt32 p0 >>> (Int32.toUInt32 1 &&& Int32.toUInt32 31)).toInt32 &&& 1431655765)) &&& 858993459) + ((Int32.toUInt32 (p0 - ((Int32.toUInt32 p0 >>> (Int32.toUInt32 1 &&& Int32.toUInt32 31)).toInt32 &&& 1431655765)) >>> (Int32.toUInt32 2 &&& Int32.toUInt32 31)).toInt32 &&& 858993459)) + (Int32.toUInt32 (((p0 - ((Int32.toUInt32 p0 >>> (Int32.toUInt32 1 &&& Int32.toUInt32 31)).toInt32 &&& 1431655765)) &&& 858993459) + ((Int32.toUInt32 (p0 - ((Int32.toUInt32 p0 >>> (Int32.toUInt32 1 &&& Int32.toUInt32 31)).toInt32 &&& 1431655765)) >>> (Int32.toUInt32 2 &&& Int32.toUInt32 31)).toInt32 &&& 858993459)) >>> (Int32.toUInt32 4 &&& Int32.toUInt32 31)).toInt32) &&& 252645135) + (Int32.toUInt32 (((((p0 - ((Int32.toUInt32 p0 >>> (Int32.toUInt32 1 &&& Int32.toUInt32 31)).toInt32 &&& 1431655765)) &&& 858993459) + ((Int32.toUInt32 (p0 - ((Int32.toUInt32 p0 >>> (Int32.toUInt32 1 &&& Int32.toUInt32 31)).toInt32 &&& 1431655765)) >>> (Int32.toUInt32 2 &&& Int32.toUInt32 31)).toInt32 &&& 858993459)) + (Int32.toUInt32 (((p0 - ((Int32.toUInt32 p0 >>> (Int32.toUInt32 1 &&& Int32.toUInt32 31)).toInt32 &&& 1431655765)) &&& 858993459) + ((Int32.toUInt32 (p0 - ((Int32.toUInt32 p0 >>> (Int32.toUInt32 1 &&& Int32.toUInt32 31)).toInt32 &&& 1431655765)) >>> (Int32.toUInt32 2 &&& Int32.toUInt32 31)).toInt32 &&& 858993459)) >>> (Int32.toUInt32 4 &&& Int32.toUInt32 31)).toInt32) &&& 252645135) >>> (Int32.toUInt32 8 &&& Int32.toUInt32 31)).toInt32) + (Int32.toUInt32 ((((((p0 - ((Int32.toUInt32 p0 >>> (Int32.toUInt32 1 &&& Int32.toUInt32 31)).toInt32 &&& 1431655765)) &&& 858993459) + ((Int32.toUInt32 (p0 - ((Int32.toUInt32 p0 >>> (Int32.toUInt32 1 &&& Int32.toUInt32 31)).toInt32 &&& 1431655765)) >>> (Int32.toUInt32 2 &&& Int32.toUInt32 31)).toInt32 &&& 858993459)) + (Int32.toUInt32 (((p0 - ((Int32.toUInt32 p0 >>> (Int32.toUInt32 1 &&& Int32.toUInt32 31)).toInt32 &&& 1431655765)) &&& 858993459) + ((Int32.toUInt32 (p0 - ((Int32.toUInt32 p0 >>> (Int32.toUInt32 1 &&& Int32.toUInt32 31)).toInt32 &&& 1431655765)) >>> (Int32.toUInt32 2 &&& Int32.toUInt32 31)).toInt32 &&& 858993459)) >>> (Int32.toUInt32 4 &&& Int32.toUInt32 31)).toInt32) &&& 252645135) + (Int32.toUInt32 (((((p0 - ((Int32.toUInt32 p0 >>> (Int32.toUInt32 1 &&& Int32.toUInt32 31)).toInt32 &&& 1431655765)) &&& 858993459) + ((Int32.toUInt32 (p0 - ((Int32.toUInt32 p0 >>> (Int32.toUInt32 1 &&& Int32.toUInt32 31)).toInt32 &&& 1431655765)) >>> (Int32.toUInt32 2 &&& Int32.toUInt32 31)).toInt32 &&& 858993459)) + (Int32.toUInt32 (((p0 - ((Int32.toUInt32 p0 >>> (Int32.toUInt32 1 &&& Int32.toUInt32 31)).toInt32 &&& 1431655765)) &&& 858993459) + ((Int32.toUInt32 (p0 - ((Int32.toUInt32 p0 >>> (Int32.toUInt32 1 &&& Int32.toUInt32 31)).toInt32 &&& 1431655765)) >>> (Int32.toUInt32 2 &&& Int32.toUInt32 31)).toInt32 &&& 858993459)) >>> (Int32.toUInt32 4 &&& Int32.toUInt32 31)).toInt32) &&& 252645135) >>> (Int32.toUInt32 8 &&& Int32.toUInt32 31)).toInt32) >>> (Int32.toUInt32 16 &&& Int32.toUInt32 31)).toInt32) &&& 63)
set_option maxRecDepth 20000 in
set_option maxHeartbeats 4000000 in
theorem con_J6_bitCount_0f7a4 {E : Ex} {Q : Option Value → Mm → Prop} {p0 : Int32} {μ : Mm} (k : Q (some (.int (v_J6_bitCount_0f7a4 p0))) μ) : Con E 1 mJ6_bitCount_0f7a4 [.int p0] μ Q := by
  refine Con_J (by decide +kernel) (Nat.le_of_ble_eq_true rfl) (fun G => ?_)
  unfold v_J6_bitCount_0f7a4 at k
  refine J_sub (ls' := [(0, .int p0)]) [0] rfl ?_
  refine J_iload_n (dk okJ6_bitCount_0f7a4 0 rfl) 0 rfl rfl ?_
  refine J_iload_n (dk okJ6_bitCount_0f7a4 1 rfl) 0 rfl rfl ?_
  refine J_iconst (v := 1) (dk okJ6_bitCount_0f7a4 2 rfl) (by decide) ?_
  refine J_iushr (dk okJ6_bitCount_0f7a4 3 rfl) ?_
  refine J_ldc_w (v := 1431655765) (dk okJ6_bitCount_0f7a4 4 rfl) kcJ6_265 ?_
  refine J_iand (dk okJ6_bitCount_0f7a4 5 rfl) ?_
  refine J_isub (dk okJ6_bitCount_0f7a4 6 rfl) ?_
  refine J_istore_n (ls' := [(0, _)]) (dk okJ6_bitCount_0f7a4 7 rfl) rfl (by decide) rfl ?_
  refine J_iload_n (dk okJ6_bitCount_0f7a4 8 rfl) 0 rfl rfl ?_
  refine J_ldc_w (v := 858993459) (dk okJ6_bitCount_0f7a4 9 rfl) kcJ6_266 ?_
  refine J_iand (dk okJ6_bitCount_0f7a4 10 rfl) ?_
  refine J_iload_n (dk okJ6_bitCount_0f7a4 11 rfl) 0 rfl rfl ?_
  refine J_iconst (v := 2) (dk okJ6_bitCount_0f7a4 12 rfl) (by decide) ?_
  refine J_iushr (dk okJ6_bitCount_0f7a4 13 rfl) ?_
  refine J_ldc_w (v := 858993459) (dk okJ6_bitCount_0f7a4 14 rfl) kcJ6_266 ?_
  refine J_iand (dk okJ6_bitCount_0f7a4 15 rfl) ?_
  refine J_iadd (dk okJ6_bitCount_0f7a4 16 rfl) ?_
  refine J_istore_n (ls' := [(0, _)]) (dk okJ6_bitCount_0f7a4 17 rfl) rfl (by decide) rfl ?_
  refine J_iload_n (dk okJ6_bitCount_0f7a4 18 rfl) 0 rfl rfl ?_
  refine J_iload_n (dk okJ6_bitCount_0f7a4 19 rfl) 0 rfl rfl ?_
  refine J_iconst (v := 4) (dk okJ6_bitCount_0f7a4 20 rfl) (by decide) ?_
  refine J_iushr (dk okJ6_bitCount_0f7a4 21 rfl) ?_
  refine J_iadd (dk okJ6_bitCount_0f7a4 22 rfl) ?_
  refine J_ldc_w (v := 252645135) (dk okJ6_bitCount_0f7a4 23 rfl) kcJ6_267 ?_
  refine J_iand (dk okJ6_bitCount_0f7a4 24 rfl) ?_
  refine J_istore_n (ls' := [(0, _)]) (dk okJ6_bitCount_0f7a4 25 rfl) rfl (by decide) rfl ?_
  refine J_iload_n (dk okJ6_bitCount_0f7a4 26 rfl) 0 rfl rfl ?_
  refine J_iload_n (dk okJ6_bitCount_0f7a4 27 rfl) 0 rfl rfl ?_
  refine J_bipush (v := 8) (dk okJ6_bitCount_0f7a4 28 rfl) (by decide) ?_
  refine J_iushr (dk okJ6_bitCount_0f7a4 29 rfl) ?_
  refine J_iadd (dk okJ6_bitCount_0f7a4 30 rfl) ?_
  refine J_istore_n (ls' := [(0, _)]) (dk okJ6_bitCount_0f7a4 31 rfl) rfl (by decide) rfl ?_
  refine J_iload_n (dk okJ6_bitCount_0f7a4 32 rfl) 0 rfl rfl ?_
  refine J_iload_n (dk okJ6_bitCount_0f7a4 33 rfl) 0 rfl rfl ?_
  refine J_bipush (v := 16) (dk okJ6_bitCount_0f7a4 34 rfl) (by decide) ?_
  refine J_iushr (dk okJ6_bitCount_0f7a4 35 rfl) ?_
  refine J_iadd (dk okJ6_bitCount_0f7a4 36 rfl) ?_
  refine J_istore_n (ls' := [(0, _)]) (dk okJ6_bitCount_0f7a4 37 rfl) rfl (by decide) rfl ?_
  refine J_iload_n (dk okJ6_bitCount_0f7a4 38 rfl) 0 rfl rfl ?_
  refine J_bipush (v := 63) (dk okJ6_bitCount_0f7a4 39 rfl) (by decide) ?_
  refine J_iand (dk okJ6_bitCount_0f7a4 40 rfl) ?_
  exact J_iret (dk okJ6_bitCount_0f7a4 41 rfl) rfl k
/-- java/lang/Integer.numberOfLeadingZeros(I)I -/
def v_J6_numberOfLeadingZeros_0f7a4 (p0 : Int32) : Int32 := (if 0 < p0 then ((if (if (if (if p0 < 65536 then p0 else (Int32.toUInt32 p0 >>> (Int32.toUInt32 16 &&& Int32.toUInt32 31)).toInt32 : Int32) < 256 then (if p0 < 65536 then p0 else (Int32.toUInt32 p0 >>> (Int32.toUInt32 16 &&& Int32.toUInt32 31)).toInt32 : Int32) else (Int32.toUInt32 (if p0 < 65536 then p0 else (Int32.toUInt32 p0 >>> (Int32.toUInt32 16 &&& Int32.toUInt32 31)).toInt32 : Int32) >>> (Int32.toUInt32 8 &&& Int32.toUInt32 31)).toInt32 : Int32) < 16 then (if (if p0 < 65536 then p0 else (Int32.toUInt32 p0 >>> (Int32.toUInt32 16 &&& Int32.toUInt32 31)).toInt32 : Int32) < 256 then (if p0 < 65536 then p0 else (Int32.toUInt32 p0 >>> (Int32.toUInt32 16 &&& Int32.toUInt32 31)).toInt32 : Int32) else (Int32.toUInt32 (if p0 < 65536 then p0 else (Int32.toUInt32 p0 >>> (Int32.toUInt32 16 &&& Int32.toUInt32 31)).toInt32 : Int32) >>> (Int32.toUInt32 8 &&& Int32.toUInt32 31)).toInt32 : Int32) else (Int32.toUInt32 (if (if p0 < 65536 then p0 else (Int32.toUInt32 p0 >>> (Int32.toUInt32 16 &&& Int32.toUInt32 31)).toInt32 : Int32) < 256 then (if p0 < 65536 then p0 else (Int32.toUInt32 p0 >>> (Int32.toUInt32 16 &&& Int32.toUInt32 31)).toInt32 : Int32) else (Int32.toUInt32 (if p0 < 65536 then p0 else (Int32.toUInt32 p0 >>> (Int32.toUInt32 16 &&& Int32.toUInt32 31)).toInt32 : Int32) >>> (Int32.toUInt32 8 &&& Int32.toUInt32 31)).toInt32 : Int32) >>> (Int32.toUInt32 4 &&& Int32.toUInt32 31)).toInt32 : Int32) < 4 then (if (if (if p0 < 65536 then p0 else (Int32.toUInt32 p0 >>> (Int32.toUInt32 16 &&& Int32.toUInt32 31)).toInt32 : Int32) < 256 then (if p0 < 65536 then p0 else (Int32.toUInt32 p0 >>> (Int32.toUInt32 16 &&& Int32.toUInt32 31)).toInt32 : Int32) else (Int32.toUInt32 (if p0 < 65536 then p0 else (Int32.toUInt32 p0 >>> (Int32.toUInt32 16 &&& Int32.toUInt32 31)).toInt32 : Int32) >>> (Int32.toUInt32 8 &&& Int32.toUInt32 31)).toInt32 : Int32) < 16 then (if (if p0 < 65536 then p0 else (Int32.toUInt32 p0 >>> (Int32.toUInt32 16 &&& Int32.toUInt32 31)).toInt32 : Int32) < 256 then (if p0 < 65536 then 31 else (31 + (-16)) : Int32) else ((if p0 < 65536 then 31 else (31 + (-16)) : Int32) + (-8)) : Int32) else ((if (if p0 < 65536 then p0 else (Int32.toUInt32 p0 >>> (Int32.toUInt32 16 &&& Int32.toUInt32 31)).toInt32 : Int32) < 256 then (if p0 < 65536 then 31 else (31 + (-16)) : Int32) else ((if p0 < 65536 then 31 else (31 + (-16)) : Int32) + (-8)) : Int32) + (-4)) : Int32) else ((if (if (if p0 < 65536 then p0 else (Int32.toUInt32 p0 >>> (Int32.toUInt32 16 &&& Int32.toUInt32 31)).toInt32 : Int32) < 256 then (if p0 < 65536 then p0 else (Int32.toUInt32 p0 >>> (Int32.toUInt32 16 &&& Int32.toUInt32 31)).toInt32 : Int32) else (Int32.toUInt32 (if p0 < 65536 then p0 else (Int32.toUInt32 p0 >>> (Int32.toUInt32 16 &&& Int32.toUInt32 31)).toInt32 : Int32) >>> (Int32.toUInt32 8 &&& Int32.toUInt32 31)).toInt32 : Int32) < 16 then (if (if p0 < 65536 then p0 else (Int32.toUInt32 p0 >>> (Int32.toUInt32 16 &&& Int32.toUInt32 31)).toInt32 : Int32) < 256 then (if p0 < 65536 then 31 else (31 + (-16)) : Int32) else ((if p0 < 65536 then 31 else (31 + (-16)) : Int32) + (-8)) : Int32) else ((if (if p0 < 65536 then p0 else (Int32.toUInt32 p0 >>> (Int32.toUInt32 16 &&& Int32.toUInt32 31)).toInt32 : Int32) < 256 then (if p0 < 65536 then 31 else (31 + (-16)) : Int32) else ((if p0 < 65536 then 31 else (31 + (-16)) : Int32) + (-8)) : Int32) + (-4)) : Int32) + (-2)) : Int32) - (Int32.toUInt32 (if (if (if (if p0 < 65536 then p0 else (Int32.toUInt32 p0 >>> (Int32.toUInt32 16 &&& Int32.toUInt32 31)).toInt32 : Int32) < 256 then (if p0 < 65536 then p0 else (Int32.toUInt32 p0 >>> (Int32.toUInt32 16 &&& Int32.toUInt32 31)).toInt32 : Int32) else (Int32.toUInt32 (if p0 < 65536 then p0 else (Int32.toUInt32 p0 >>> (Int32.toUInt32 16 &&& Int32.toUInt32 31)).toInt32 : Int32) >>> (Int32.toUInt32 8 &&& Int32.toUInt32 31)).toInt32 : Int32) < 16 then (if (if p0 < 65536 then p0 else (Int32.toUInt32 p0 >>> (Int32.toUInt32 16 &&& Int32.toUInt32 31)).toInt32 : Int32) < 256 then (if p0 < 65536 then p0 else (Int32.toUInt32 p0 >>> (Int32.toUInt32 16 &&& Int32.toUInt32 31)).toInt32 : Int32) else (Int32.toUInt32 (if p0 < 65536 then p0 else (Int32.toUInt32 p0 >>> (Int32.toUInt32 16 &&& Int32.toUInt32 31)).toInt32 : Int32) >>> (Int32.toUInt32 8 &&& Int32.toUInt32 31)).toInt32 : Int32) else (Int32.toUInt32 (if (if p0 < 65536 then p0 else (Int32.toUInt32 p0 >>> (Int32.toUInt32 16 &&& Int32.toUInt32 31)).toInt32 : Int32) < 256 then (if p0 < 65536 then p0 else (Int32.toUInt32 p0 >>> (Int32.toUInt32 16 &&& Int32.toUInt32 31)).toInt32 : Int32) else (Int32.toUInt32 (if p0 < 65536 then p0 else (Int32.toUInt32 p0 >>> (Int32.toUInt32 16 &&& Int32.toUInt32 31)).toInt32 : Int32) >>> (Int32.toUInt32 8 &&& Int32.toUInt32 31)).toInt32 : Int32) >>> (Int32.toUInt32 4 &&& Int32.toUInt32 31)).toInt32 : Int32) < 4 then (if (if (if p0 < 65536 then p0 else (Int32.toUInt32 p0 >>> (Int32.toUInt32 16 &&& Int32.toUInt32 31)).toInt32 : Int32) < 256 then (if p0 < 65536 then p0 else (Int32.toUInt32 p0 >>> (Int32.toUInt32 16 &&& Int32.toUInt32 31)).toInt32 : Int32) else (Int32.toUInt32 (if p0 < 65536 then p0 else (Int32.toUInt32 p0 >>> (Int32.toUInt32 16 &&& Int32.toUInt32 31)).toInt32 : Int32) >>> (Int32.toUInt32 8 &&& Int32.toUInt32 31)).toInt32 : Int32) < 16 then (if (if p0 < 65536 then p0 else (Int32.toUInt32 p0 >>> (Int32.toUInt32 16 &&& Int32.toUInt32 31)).toInt32 : Int32) < 256 then (if p0 < 65536 then p0 else (Int32.toUInt32 p0 >>> (Int32.toUInt32 16 &&& Int32.toUInt32 31)).toInt32 : Int32) else (Int32.toUInt32 (if p0 < 65536 then p0 else (Int32.toUInt32 p0 >>> (Int32.toUInt32 16 &&& Int32.toUInt32 31)).toInt32 : Int32) >>> (Int32.toUInt32 8 &&& Int32.toUInt32 31)).toInt32 : Int32) else (Int32.toUInt32 (if (if p0 < 65536 then p0 else (Int32.toUInt32 p0 >>> (Int32.toUInt32 16 &&& Int32.toUInt32 31)).toInt32 : Int32) < 256 then (if p0 < 65536 then p0 else (Int32.toUInt32 p0 >>> (Int32.toUInt32 16 &&& Int32.toUInt32 31)).toInt32 : Int32) else (Int32.toUInt32 (if p0 < 65536 then p0 else (Int32.toUInt32 p0 >>> (Int32.toUInt32 16 &&& Int32.toUInt32 31)).toInt32 : Int32) >>> (Int32.toUInt32 8 &&& Int32.toUInt32 31)).toInt32 : Int32) >>> (Int32.toUInt32 4 &&& Int32.toUInt32 31)).toInt32 : Int32) else (Int32.toUInt32 (if (if (if p0 < 65536 then p0 else (Int32.toUInt32 p0 >>> (Int32.toUInt32 16 &&& Int32.toUInt32 31)).toInt32 : Int32) < 256 then (if p0 < 65536 then p0 else (Int32.toUInt32 p0 >>> (Int32.toUInt32 16 &&& Int32.toUInt32 31)).toInt32 : Int32) else (Int32.toUInt32 (if p0 < 65536 then p0 else (Int32.toUInt32 p0 >>> (Int32.toUInt32 16 &&& Int32.toUInt32 31)).toInt32 : Int32) >>> (Int32.toUInt32 8 &&& Int32.toUInt32 31)).toInt32 : Int32) < 16 then (if (if p0 < 65536 then p0 else (Int32.toUInt32 p0 >>> (Int32.toUInt32 16 &&& Int32.toUInt32 31)).toInt32 : Int32) < 256 then (if p0 < 65536 then p0 else (Int32.toUInt32 p0 >>> (Int32.toUInt32 16 &&& Int32.toUInt32 31)).toInt32 : Int32) else (Int32.toUInt32 (if p0 < 65536 then p0 else (Int32.toUInt32 p0 >>> (Int32.toUInt32 16 &&& Int32.toUInt32 31)).toInt32 : Int32) >>> (Int32.toUInt32 8 &&& Int32.toUInt32 31)).toInt32 : Int32) else (Int32.toUInt32 (if (if p0 < 65536 then p0 else (Int32.toUInt32 p0 >>> (Int32.toUInt32 16 &&& Int32.toUInt32 31)).toInt32 : Int32) < 256 then (if p0 < 65536 then p0 else (Int32.toUInt32 p0 >>> (Int32.toUInt32 16 &&& Int32.toUInt32 31)).toInt32 : Int32) else (Int32.toUInt32 (if p0 < 65536 then p0 else (Int32.toUInt32 p0 >>> (Int32.toUInt32 16 &&& Int32.toUInt32 31)).toInt32 : Int32) >>> (Int32.toUInt32 8 &&& Int32.toUInt32 31)).toInt32 : Int32) >>> (Int32.toUInt32 4 &&& Int32.toUInt32 31)).toInt32 : Int32) >>> (Int32.toUInt32 2 &&& Int32.toUInt32 31)).toInt32 : Int32) >>> (Int32.toUInt32 1 &&& Int32.toUInt32 31)).toInt32) else (if p0 = 0 then 32 else 0 : Int32))
set_option maxRecDepth 20000 in
set_option maxHeartbeats 4000000 in
theorem con_J6_numberOfLeadingZeros_0f7a4 {E : Ex} {Q : Option Value → Mm → Prop} {p0 : Int32} {μ : Mm} (k : Q (some (.int (v_J6_numberOfLeadingZeros_0f7a4 p0))) μ) : Con E 1 mJ6_numberOfLeadingZeros_0f7a4 [.int p0] μ Q := by
  refine Con_J (by decide +kernel) (Nat.le_of_ble_eq_true rfl) (fun G => ?_)
  unfold v_J6_numberOfLeadingZeros_0f7a4 at k
  refine J_sub (ls' := [(0, .int p0)]) [0] rfl ?_
  refine J_iload_n (dk okJ6_numberOfLeadingZeros_0f7a4 0 rfl) 0 rfl rfl ?_
  refine J_if_gt (tgt := 15) (dk okJ6_numberOfLeadingZeros_0f7a4 1 rfl) (by decide) (fun h1 => ?_) (fun h1 => ?_)
  · refine J_bipush (v := 31) (dk okJ6_numberOfLeadingZeros_0f7a4 8 rfl) (by decide) ?_
    refine J_istore_n (ls' := [(1, _), (0, _)]) (dk okJ6_numberOfLeadingZeros_0f7a4 9 rfl) rfl (by decide) rfl ?_
    refine J_iload_n (dk okJ6_numberOfLeadingZeros_0f7a4 10 rfl) 1 rfl rfl ?_
    refine J_ldc_w (v := 65536) (dk okJ6_numberOfLeadingZeros_0f7a4 11 rfl) kcJ6_264 ?_
    have K3 : J E G 1 mJ6_numberOfLeadingZeros_0f7a4 Q 33 [(0, .int (if p0 < 65536 then p0 else (Int32.toUInt32 p0 >>> (Int32.toUInt32 16 &&& Int32.toUInt32 31)).toInt32 : Int32)), (1, .int (if p0 < 65536 then 31 else (31 + (-16)) : Int32))] [] μ := by
      refine J_iload_n (dk okJ6_numberOfLeadingZeros_0f7a4 18 rfl) 0 rfl rfl ?_
      refine J_sipush (v := 256) (dk okJ6_numberOfLeadingZeros_0f7a4 19 rfl) (by decide) ?_
      have K5 : J E G 1 mJ6_numberOfLeadingZeros_0f7a4 Q 48 [(0, .int (if (if p0 < 65536 then p0 else (Int32.toUInt32 p0 >>> (Int32.toUInt32 16 &&& Int32.toUInt32 31)).toInt32 : Int32) < 256 then (if p0 < 65536 then p0 else (Int32.toUInt32 p0 >>> (Int32.toUInt32 16 &&& Int32.toUInt32 31)).toInt32 : Int32) else (Int32.toUInt32 (if p0 < 65536 then p0 else (Int32.toUInt32 p0 >>> (Int32.toUInt32 16 &&& Int32.toUInt32 31)).toInt32 : Int32) >>> (Int32.toUInt32 8 &&& Int32.toUInt32 31)).toInt32 : Int32)), (1, .int (if (if p0 < 65536 then p0 else (Int32.toUInt32 p0 >>> (Int32.toUInt32 16 &&& Int32.toUInt32 31)).toInt32 : Int32) < 256 then (if p0 < 65536 then 31 else (31 + (-16)) : Int32) else ((if p0 < 65536 then 31 else (31 + (-16)) : Int32) + (-8)) : Int32))] [] μ := by
        refine J_iload_n (dk okJ6_numberOfLeadingZeros_0f7a4 26 rfl) 0 rfl rfl ?_
        refine J_bipush (v := 16) (dk okJ6_numberOfLeadingZeros_0f7a4 27 rfl) (by decide) ?_
        have K7 : J E G 1 mJ6_numberOfLeadingZeros_0f7a4 Q 61 [(0, .int (if (if (if p0 < 65536 then p0 else (Int32.toUInt32 p0 >>> (Int32.toUInt32 16 &&& Int32.toUInt32 31)).toInt32 : Int32) < 256 then (if p0 < 65536 then p0 else (Int32.toUInt32 p0 >>> (Int32.toUInt32 16 &&& Int32.toUInt32 31)).toInt32 : Int32) else (Int32.toUInt32 (if p0 < 65536 then p0 else (Int32.toUInt32 p0 >>> (Int32.toUInt32 16 &&& Int32.toUInt32 31)).toInt32 : Int32) >>> (Int32.toUInt32 8 &&& Int32.toUInt32 31)).toInt32 : Int32) < 16 then (if (if p0 < 65536 then p0 else (Int32.toUInt32 p0 >>> (Int32.toUInt32 16 &&& Int32.toUInt32 31)).toInt32 : Int32) < 256 then (if p0 < 65536 then p0 else (Int32.toUInt32 p0 >>> (Int32.toUInt32 16 &&& Int32.toUInt32 31)).toInt32 : Int32) else (Int32.toUInt32 (if p0 < 65536 then p0 else (Int32.toUInt32 p0 >>> (Int32.toUInt32 16 &&& Int32.toUInt32 31)).toInt32 : Int32) >>> (Int32.toUInt32 8 &&& Int32.toUInt32 31)).toInt32 : Int32) else (Int32.toUInt32 (if (if p0 < 65536 then p0 else (Int32.toUInt32 p0 >>> (Int32.toUInt32 16 &&& Int32.toUInt32 31)).toInt32 : Int32) < 256 then (if p0 < 65536 then p0 else (Int32.toUInt32 p0 >>> (Int32.toUInt32 16 &&& Int32.toUInt32 31)).toInt32 : Int32) else (Int32.toUInt32 (if p0 < 65536 then p0 else (Int32.toUInt32 p0 >>> (Int32.toUInt32 16 &&& Int32.toUInt32 31)).toInt32 : Int32) >>> (Int32.toUInt32 8 &&& Int32.toUInt32 31)).toInt32 : Int32) >>> (Int32.toUInt32 4 &&& Int32.toUInt32 31)).toInt32 : Int32)), (1, .int (if (if (if p0 < 65536 then p0 else (Int32.toUInt32 p0 >>> (Int32.toUInt32 16 &&& Int32.toUInt32 31)).toInt32 : Int32) < 256 then (if p0 < 65536 then p0 else (Int32.toUInt32 p0 >>> (Int32.toUInt32 16 &&& Int32.toUInt32 31)).toInt32 : Int32) else (Int32.toUInt32 (if p0 < 65536 then p0 else (Int32.toUInt32 p0 >>> (Int32.toUInt32 16 &&& Int32.toUInt32 31)).toInt32 : Int32) >>> (Int32.toUInt32 8 &&& Int32.toUInt32 31)).toInt32 : Int32) < 16 then (if (if p0 < 65536 then p0 else (Int32.toUInt32 p0 >>> (Int32.toUInt32 16 &&& Int32.toUInt32 31)).toInt32 : Int32) < 256 then (if p0 < 65536 then 31 else (31 + (-16)) : Int32) else ((if p0 < 65536 then 31 else (31 + (-16)) : Int32) + (-8)) : Int32) else ((if (if p0 < 65536 then p0 else (Int32.toUInt32 p0 >>> (Int32.toUInt32 16 &&& Int32.toUInt32 31)).toInt32 : Int32) < 256 then (if p0 < 65536 then 31 else (31 + (-16)) : Int32) else ((if p0 < 65536 then 31 else (31 + (-16)) : Int32) + (-8)) : Int32) + (-4)) : Int32))] [] μ := by
          refine J_iload_n (dk okJ6_numberOfLeadingZeros_0f7a4 34 rfl) 0 rfl rfl ?_
          refine J_iconst (v := 4) (dk okJ6_numberOfLeadingZeros_0f7a4 35 rfl) (by decide) ?_
          have K9 : J E G 1 mJ6_numberOfLeadingZeros_0f7a4 Q 73 [(0, .int (if (if (if (if p0 < 65536 then p0 else (Int32.toUInt32 p0 >>> (Int32.toUInt32 16 &&& Int32.toUInt32 31)).toInt32 : Int32) < 256 then (if p0 < 65536 then p0 else (Int32.toUInt32 p0 >>> (Int32.toUInt32 16 &&& Int32.toUInt32 31)).toInt32 : Int32) else (Int32.toUInt32 (if p0 < 65536 then p0 else (Int32.toUInt32 p0 >>> (Int32.toUInt32 16 &&& Int32.toUInt32 31)).toInt32 : Int32) >>> (Int32.toUInt32 8 &&& Int32.toUInt32 31)).toInt32 : Int32) < 16 then (if (if p0 < 65536 then p0 else (Int32.toUInt32 p0 >>> (Int32.toUInt32 16 &&& Int32.toUInt32 31)).toInt32 : Int32) < 256 then (if p0 < 65536 then p0 else (Int32.toUInt32 p0 >>> (Int32.toUInt32 16 &&& Int32.toUInt32 31)).toInt32 : Int32) else (Int32.toUInt32 (if p0 < 65536 then p0 else (Int32.toUInt32 p0 >>> (Int32.toUInt32 16 &&& Int32.toUInt32 31)).toInt32 : Int32) >>> (Int32.toUInt32 8 &&& Int32.toUInt32 31)).toInt32 : Int32) else (Int32.toUInt32 (if (if p0 < 65536 then p0 else (Int32.toUInt32 p0 >>> (Int32.toUInt32 16 &&& Int32.toUInt32 31)).toInt32 : Int32) < 256 then (if p0 < 65536 then p0 else (Int32.toUInt32 p0 >>> (Int32.toUInt32 16 &&& Int32.toUInt32 31)).toInt32 : Int32) else (Int32.toUInt32 (if p0 < 65536 then p0 else (Int32.toUInt32 p0 >>> (Int32.toUInt32 16 &&& Int32.toUInt32 31)).toInt32 : Int32) >>> (Int32.toUInt32 8 &&& Int32.toUInt32 31)).toInt32 : Int32) >>> (Int32.toUInt32 4 &&& Int32.toUInt32 31)).toInt32 : Int32) < 4 then (if (if (if p0 < 65536 then p0 else (Int32.toUInt32 p0 >>> (Int32.toUInt32 16 &&& Int32.toUInt32 31)).toInt32 : Int32) < 256 then (if p0 < 65536 then p0 else (Int32.toUInt32 p0 >>> (Int32.toUInt32 16 &&& Int32.toUInt32 31)).toInt32 : Int32) else (Int32.toUInt32 (if p0 < 65536 then p0 else (Int32.toUInt32 p0 >>> (Int32.toUInt32 16 &&& Int32.toUInt32 31)).toInt32 : Int32) >>> (Int32.toUInt32 8 &&& Int32.toUInt32 31)).toInt32 : Int32) < 16 then (if (if p0 < 65536 then p0 else (Int32.toUInt32 p0 >>> (Int32.toUInt32 16 &&& Int32.toUInt32 31)).toInt32 : Int32) < 256 then (if p0 < 65536 then p0 else (Int32.toUInt32 p0 >>> (Int32.toUInt32 16 &&& Int32.toUInt32 31)).toInt32 : Int32) else (Int32.toUInt32 (if p0 < 65536 then p0 else (Int32.toUInt32 p0 >>> (Int32.toUInt32 16 &&& Int32.toUInt32 31)).toInt32 : Int32) >>> (Int32.toUInt32 8 &&& Int32.toUInt32 31)).toInt32 : Int32) else (Int32.toUInt32 (if (if p0 < 65536 then p0 else (Int32.toUInt32 p0 >>> (Int32.toUInt32 16 &&& Int32.toUInt32 31)).toInt32 : Int32) < 256 then (if p0 < 65536 then p0 else (Int32.toUInt32 p0 >>> (Int32.toUInt32 16 &&& Int32.toUInt32 31)).toInt32 : Int32) else (Int32.toUInt32 (if p0 < 65536 then p0 else (Int32.toUInt32 p0 >>> (Int32.toUInt32 16 &&& Int32.toUInt32 31)).toInt32 : Int32) >>> (Int32.toUInt32 8 &&& Int32.toUInt32 31)).toInt32 : Int32) >>> (Int32.toUInt32 4 &&& Int32.toUInt32 31)).toInt32 : Int32) else (Int32.toUInt32 (if (if (if p0 < 65536 then p0 else (Int32.toUInt32 p0 >>> (Int32.toUInt32 16 &&& Int32.toUInt32 31)).toInt32 : Int32) < 256 then (if p0 < 65536 then p0 else (Int32.toUInt32 p0 >>> (Int32.toUInt32 16 &&& Int32.toUInt32 31)).toInt32 : Int32) else (Int32.toUInt32 (if p0 < 65536 then p0 else (Int32.toUInt32 p0 >>> (Int32.toUInt32 16 &&& Int32.toUInt32 31)).toInt32 : Int32) >>> (Int32.toUInt32 8 &&& Int32.toUInt32 31)).toInt32 : Int32) < 16 then (if (if p0 < 65536 then p0 else (Int32.toUInt32 p0 >>> (Int32.toUInt32 16 &&& Int32.toUInt32 31)).toInt32 : Int32) < 256 then (if p0 < 65536 then p0 else (Int32.toUInt32 p0 >>> (Int32.toUInt32 16 &&& Int32.toUInt32 31)).toInt32 : Int32) else (Int32.toUInt32 (if p0 < 65536 then p0 else (Int32.toUInt32 p0 >>> (Int32.toUInt32 16 &&& Int32.toUInt32 31)).toInt32 : Int32) >>> (Int32.toUInt32 8 &&& Int32.toUInt32 31)).toInt32 : Int32) else (Int32.toUInt32 (if (if p0 < 65536 then p0 else (Int32.toUInt32 p0 >>> (Int32.toUInt32 16 &&& Int32.toUInt32 31)).toInt32 : Int32) < 256 then (if p0 < 65536 then p0 else (Int32.toUInt32 p0 >>> (Int32.toUInt32 16 &&& Int32.toUInt32 31)).toInt32 : Int32) else (Int32.toUInt32 (if p0 < 65536 then p0 else (Int32.toUInt32 p0 >>> (Int32.toUInt32 16 &&& Int32.toUInt32 31)).toInt32 : Int32) >>> (Int32.toUInt32 8 &&& Int32.toUInt32 31)).toInt32 : Int32) >>> (Int32.toUInt32 4 &&& Int32.toUInt32 31)).toInt32 : Int32) >>> (Int32.toUInt32 2 &&& Int32.toUInt32 31)).toInt32 : Int32)), (1, .int (if (if (if (if p0 < 65536 then p0 else (Int32.toUInt32 p0 >>> (Int32.toUInt32 16 &&& Int32.toUInt32 31)).toInt32 : Int32) < 256 then (if p0 < 65536 then p0 else (Int32.toUInt32 p0 >>> (Int32.toUInt32 16 &&& Int32.toUInt32 31)).toInt32 : Int32) else (Int32.toUInt32 (if p0 < 65536 then p0 else (Int32.toUInt32 p0 >>> (Int32.toUInt32 16 &&& Int32.toUInt32 31)).toInt32 : Int32) >>> (Int32.toUInt32 8 &&& Int32.toUInt32 31)).toInt32 : Int32) < 16 then (if (if p0 < 65536 then p0 else (Int32.toUInt32 p0 >>> (Int32.toUInt32 16 &&& Int32.toUInt32 31)).toInt32 : Int32) < 256 then (if p0 < 65536 then p0 else (Int32.toUInt32 p0 >>> (Int32.toUInt32 16 &&& Int32.toUInt32 31)).toInt32 : Int32) else (Int32.toUInt32 (if p0 < 65536 then p0 else (Int32.toUInt32 p0 >>> (Int32.toUInt32 16 &&& Int32.toUInt32 31)).toInt32 : Int32) >>> (Int32.toUInt32 8 &&& Int32.toUInt32 31)).toInt32 : Int32) else (Int32.toUInt32 (if (if p0 < 65536 then p0 else (Int32.toUInt32 p0 >>> (Int32.toUInt32 16 &&& Int32.toUInt32 31)).toInt32 : Int32) < 256 then (if p0 < 65536 then p0 else (Int32.toUInt32 p0 >>> (Int32.toUInt32 16 &&& Int32.toUInt32 31)).toInt32 : Int32) else (Int32.toUInt32 (if p0 < 65536 then p0 else (Int32.toUInt32 p0 >>> (Int32.toUInt32 16 &&& Int32.toUInt32 31)).toInt32 : Int32) >>> (Int32.toUInt32 8 &&& Int32.toUInt32 31)).toInt32 : Int32) >>> (Int32.toUInt32 4 &&& Int32.toUInt32 31)).toInt32 : Int32) < 4 then (if (if (if p0 < 65536 then p0 else (Int32.toUInt32 p0 >>> (Int32.toUInt32 16 &&& Int32.toUInt32 31)).toInt32 : Int32) < 256 then (if p0 < 65536 then p0 else (Int32.toUInt32 p0 >>> (Int32.toUInt32 16 &&& Int32.toUInt32 31)).toInt32 : Int32) else (Int32.toUInt32 (if p0 < 65536 then p0 else (Int32.toUInt32 p0 >>> (Int32.toUInt32 16 &&& Int32.toUInt32 31)).toInt32 : Int32) >>> (Int32.toUInt32 8 &&& Int32.toUInt32 31)).toInt32 : Int32) < 16 then (if (if p0 < 65536 then p0 else (Int32.toUInt32 p0 >>> (Int32.toUInt32 16 &&& Int32.toUInt32 31)).toInt32 : Int32) < 256 then (if p0 < 65536 then 31 else (31 + (-16)) : Int32) else ((if p0 < 65536 then 31 else (31 + (-16)) : Int32) + (-8)) : Int32) else ((if (if p0 < 65536 then p0 else (Int32.toUInt32 p0 >>> (Int32.toUInt32 16 &&& Int32.toUInt32 31)).toInt32 : Int32) < 256 then (if p0 < 65536 then 31 else (31 + (-16)) : Int32) else ((if p0 < 65536 then 31 else (31 + (-16)) : Int32) + (-8)) : Int32) + (-4)) : Int32) else ((if (if (if p0 < 65536 then p0 else (Int32.toUInt32 p0 >>> (Int32.toUInt32 16 &&& Int32.toUInt32 31)).toInt32 : Int32) < 256 then (if p0 < 65536 then p0 else (Int32.toUInt32 p0 >>> (Int32.toUInt32 16 &&& Int32.toUInt32 31)).toInt32 : Int32) else (Int32.toUInt32 (if p0 < 65536 then p0 else (Int32.toUInt32 p0 >>> (Int32.toUInt32 16 &&& Int32.toUInt32 31)).toInt32 : Int32) >>> (Int32.toUInt32 8 &&& Int32.toUInt32 31)).toInt32 : Int32) < 16 then (if (if p0 < 65536 then p0 else (Int32.toUInt32 p0 >>> (Int32.toUInt32 16 &&& Int32.toUInt32 31)).toInt32 : Int32) < 256 then (if p0 < 65536 then 31 else (31 + (-16)) : Int32) else ((if p0 < 65536 then 31 else (31 + (-16)) : Int32) + (-8)) : Int32) else ((if (if p0 < 65536 then p0 else (Int32.toUInt32 p0 >>> (Int32.toUInt32 16 &&& Int32.toUInt32 31)).toInt32 : Int32) < 256 then (if p0 < 65536 then 31 else (31 + (-16)) : Int32) else ((if p0 < 65536 then 31 else (31 + (-16)) : Int32) + (-8)) : Int32) + (-4)) : Int32) + (-2)) : Int32))] [] μ := by
            refine J_iload_n (dk okJ6_numberOfLeadingZeros_0f7a4 42 rfl) 1 rfl rfl ?_
            refine J_iload_n (dk okJ6_numberOfLeadingZeros_0f7a4 43 rfl) 0 rfl rfl ?_
            refine J_iconst (v := 1) (dk okJ6_numberOfLeadingZeros_0f7a4 44 rfl) (by decide) ?_
            refine J_iushr (dk okJ6_numberOfLeadingZeros_0f7a4 45 rfl) ?_
            refine J_isub (dk okJ6_numberOfLeadingZeros_0f7a4 46 rfl) ?_
            (try simp only [if_pos h1] at k ⊢)
            exact J_iret (dk okJ6_numberOfLeadingZeros_0f7a4 47 rfl) rfl k
          refine J_icmp_lt (tgt := 73) (dk okJ6_numberOfLeadingZeros_0f7a4 36 rfl) (by decide) (fun h8 => ?_) (fun h8 => ?_)
          · refine J_sub (ls' := [(0, _), (1, _)]) [0, 1] rfl ?_
            (try simp only [if_pos h8] at K9 ⊢); exact K9
          · refine J_iinc (v := ((if (if (if p0 < 65536 then p0 else (Int32.toUInt32 p0 >>> (Int32.toUInt32 16 &&& Int32.toUInt32 31)).toInt32 : Int32) < 256 then (if p0 < 65536 then p0 else (Int32.toUInt32 p0 >>> (Int32.toUInt32 16 &&& Int32.toUInt32 31)).toInt32 : Int32) else (Int32.toUInt32 (if p0 < 65536 then p0 else (Int32.toUInt32 p0 >>> (Int32.toUInt32 16 &&& Int32.toUInt32 31)).toInt32 : Int32) >>> (Int32.toUInt32 8 &&& Int32.toUInt32 31)).toInt32 : Int32) < 16 then (if (if p0 < 65536 then p0 else (Int32.toUInt32 p0 >>> (Int32.toUInt32 16 &&& Int32.toUInt32 31)).toInt32 : Int32) < 256 then (if p0 < 65536 then 31 else (31 + (-16)) : Int32) else ((if p0 < 65536 then 31 else (31 + (-16)) : Int32) + (-8)) : Int32) else ((if (if p0 < 65536 then p0 else (Int32.toUInt32 p0 >>> (Int32.toUInt32 16 &&& Int32.toUInt32 31)).toInt32 : Int32) < 256 then (if p0 < 65536 then 31 else (31 + (-16)) : Int32) else ((if p0 < 65536 then 31 else (31 + (-16)) : Int32) + (-8)) : Int32) + (-4)) : Int32) + (-2))) (ls' := [(1, _), (0, _)]) (dk okJ6_numberOfLeadingZeros_0f7a4 37 rfl) 1 rfl rfl (by decide) rfl ?_
            refine J_iload_n (dk okJ6_numberOfLeadingZeros_0f7a4 38 rfl) 1 rfl rfl ?_
            refine J_iconst (v := 2) (dk okJ6_numberOfLeadingZeros_0f7a4 39 rfl) (by decide) ?_
            refine J_iushr (dk okJ6_numberOfLeadingZeros_0f7a4 40 rfl) ?_
            refine J_istore_n (ls' := [(0, _), (1, _)]) (dk okJ6_numberOfLeadingZeros_0f7a4 41 rfl) rfl (by decide) rfl ?_
            refine J_sub (ls' := [(0, _), (1, _)]) [0, 1] rfl ?_
            (try simp only [if_neg h8] at K9 ⊢); exact K9
        refine J_icmp_lt (tgt := 61) (dk okJ6_numberOfLeadingZeros_0f7a4 28 rfl) (by decide) (fun h6 => ?_) (fun h6 => ?_)
        · refine J_sub (ls' := [(0, _), (1, _)]) [0, 1] rfl ?_
          (try simp only [if_pos h6] at K7 ⊢); exact K7
        · refine J_iinc (v := ((if (if p0 < 65536 then p0 else (Int32.toUInt32 p0 >>> (Int32.toUInt32 16 &&& Int32.toUInt32 31)).toInt32 : Int32) < 256 then (if p0 < 65536 then 31 else (31 + (-16)) : Int32) else ((if p0 < 65536 then 31 else (31 + (-16)) : Int32) + (-8)) : Int32) + (-4))) (ls' := [(1, _), (0, _)]) (dk okJ6_numberOfLeadingZeros_0f7a4 29 rfl) 1 rfl rfl (by decide) rfl ?_
          refine J_iload_n (dk okJ6_numberOfLeadingZeros_0f7a4 30 rfl) 1 rfl rfl ?_
          refine J_iconst (v := 4) (dk okJ6_numberOfLeadingZeros_0f7a4 31 rfl) (by decide) ?_
          refine J_iushr (dk okJ6_numberOfLeadingZeros_0f7a4 32 rfl) ?_
          refine J_istore_n (ls' := [(0, _), (1, _)]) (dk okJ6_numberOfLeadingZeros_0f7a4 33 rfl) rfl (by decide) rfl ?_
          refine J_sub (ls' := [(0, _), (1, _)]) [0, 1] rfl ?_
          (try simp only [if_neg h6] at K7 ⊢); exact K7
      refine J_icmp_lt (tgt := 48) (dk okJ6_numberOfLeadingZeros_0f7a4 20 rfl) (by decide) (fun h4 => ?_) (fun h4 => ?_)
      · refine J_sub (ls' := [(0, _), (1, _)]) [0, 1] rfl ?_
        (try simp only [if_pos h4] at K5 ⊢); exact K5
      · refine J_iinc (v := ((if p0 < 65536 then 31 else (31 + (-16)) : Int32) + (-8))) (ls' := [(1, _), (0, _)]) (dk okJ6_numberOfLeadingZeros_0f7a4 21 rfl) 1 rfl rfl (by decide) rfl ?_
        refine J_iload_n (dk okJ6_numberOfLeadingZeros_0f7a4 22 rfl) 1 rfl rfl ?_
        refine J_bipush (v := 8) (dk okJ6_numberOfLeadingZeros_0f7a4 23 rfl) (by decide) ?_
        refine J_iushr (dk okJ6_numberOfLeadingZeros_0f7a4 24 rfl) ?_
        refine J_istore_n (ls' := [(0, _), (1, _)]) (dk okJ6_numberOfLeadingZeros_0f7a4 25 rfl) rfl (by decide) rfl ?_
        refine J_sub (ls' := [(0, _), (1, _)]) [0, 1] rfl ?_
        (try simp only [if_neg h4] at K5 ⊢); exact K5
    refine J_icmp_lt (tgt := 33) (dk okJ6_numberOfLeadingZeros_0f7a4 12 rfl) (by decide) (fun h2 => ?_) (fun h2 => ?_)
    · refine J_sub (ls' := [(0, _), (1, _)]) [1, 0] rfl ?_
      (try simp only [if_pos h2] at K3 ⊢); exact K3
    · refine J_iinc (v := (31 + (-16))) (ls' := [(1, _), (0, _)]) (dk okJ6_numberOfLeadingZeros_0f7a4 13 rfl) 0 rfl rfl (by decide) rfl ?_
      refine J_iload_n (dk okJ6_numberOfLeadingZeros_0f7a4 14 rfl) 1 rfl rfl ?_
      refine J_bipush (v := 16) (dk okJ6_numberOfLeadingZeros_0f7a4 15 rfl) (by decide) ?_
      refine J_iushr (dk okJ6_numberOfLeadingZeros_0f7a4 16 rfl) ?_
      refine J_istore_n (ls' := [(0, _), (1, _)]) (dk okJ6_numberOfLeadingZeros_0f7a4 17 rfl) rfl (by decide) rfl ?_
      refine J_sub (ls' := [(0, _), (1, _)]) [0, 1] rfl ?_
      (try simp only [if_neg h2] at K3 ⊢); exact K3
  · refine J_iload_n (dk okJ6_numberOfLeadingZeros_0f7a4 2 rfl) 0 rfl rfl ?_
    have K11 : J E G 1 mJ6_numberOfLeadingZeros_0f7a4 Q 14 [] [.int (if p0 = 0 then 32 else 0 : Int32)] μ := by
      (try simp only [if_neg h1] at k ⊢)
      exact J_iret (dk okJ6_numberOfLeadingZeros_0f7a4 7 rfl) rfl k
    refine J_if_ne (tgt := 13) (dk okJ6_numberOfLeadingZeros_0f7a4 3 rfl) (by decide) (fun h10 => ?_) (fun h10 => ?_)
    · refine J_iconst (v := 0) (dk okJ6_numberOfLeadingZeros_0f7a4 6 rfl) (by decide) ?_
      refine J_sub (ls' := []) [] rfl ?_
      (try simp only [if_neg h10] at K11 ⊢); exact K11
    · refine J_bipush (v := 32) (dk okJ6_numberOfLeadingZeros_0f7a4 4 rfl) (by decide) ?_
      refine J_goto (tgt := 14) (dk okJ6_numberOfLeadingZeros_0f7a4 5 rfl) (by decide) ?_
      refine J_sub (ls' := []) [] rfl ?_
      (try simp only [if_pos h10] at K11 ⊢); exact K11
/-- java/lang/Integer.numberOfTrailingZeros(I)I -/
def v_J6_numberOfTrailingZeros_0f7a4 (p0 : Int32) : Int32 := (if 0 < ((p0 ^^^ (-1)) &&& (p0 - 1)) then ((if (if (if (if ((p0 ^^^ (-1)) &&& (p0 - 1)) ≤ 65536 then ((p0 ^^^ (-1)) &&& (p0 - 1)) else (Int32.toUInt32 ((p0 ^^^ (-1)) &&& (p0 - 1)) >>> (Int32.toUInt32 16 &&& Int32.toUInt32 31)).toInt32 : Int32) ≤ 256 then (if ((p0 ^^^ (-1)) &&& (p0 - 1)) ≤ 65536 then ((p0 ^^^ (-1)) &&& (p0 - 1)) else (Int32.toUInt32 ((p0 ^^^ (-1)) &&& (p0 - 1)) >>> (Int32.toUInt32 16 &&& Int32.toUInt32 31)).toInt32 : Int32) else (Int32.toUInt32 (if ((p0 ^^^ (-1)) &&& (p0 - 1)) ≤ 65536 then ((p0 ^^^ (-1)) &&& (p0 - 1)) else (Int32.toUInt32 ((p0 ^^^ (-1)) &&& (p0 - 1)) >>> (Int32.toUInt32 16 &&& Int32.toUInt32 31)).toInt32 : Int32) >>> (Int32.toUInt32 8 &&& Int32.toUInt32 31)).toInt32 : Int32) ≤ 16 then (if (if ((p0 ^^^ (-1)) &&& (p0 - 1)) ≤ 65536 then ((p0 ^^^ (-1)) &&& (p0 - 1)) else (Int32.toUInt32 ((p0 ^^^ (-1)) &&& (p0 - 1)) >>> (Int32.toUInt32 16 &&& Int32.toUInt32 31)).toInt32 : Int32) ≤ 256 then (if ((p0 ^^^ (-1)) &&& (p0 - 1)) ≤ 65536 then ((p0 ^^^ (-1)) &&& (p0 - 1)) else (Int32.toUInt32 ((p0 ^^^ (-1)) &&& (p0 - 1)) >>> (Int32.toUInt32 16 &&& Int32.toUInt32 31)).toInt32 : Int32) else (Int32.toUInt32 (if ((p0 ^^^ (-1)) &&& (p0 - 1)) ≤ 65536 then ((p0 ^^^ (-1)) &&& (p0 - 1)) else (Int32.toUInt32 ((p0 ^^^ (-1)) &&& (p0 - 1)) >>> (Int32.toUInt32 16 &&& Int32.toUInt32 31)).toInt32 : Int32) >>> (Int32.toUInt32 8 &&& Int32.toUInt32 31)).toInt32 : Int32) else (Int32.toUInt32 (if (if ((p0 ^^^ (-1)) &&& (p0 - 1)) ≤ 65536 then ((p0 ^^^ (-1)) &&& (p0 - 1)) else (Int32.toUInt32 ((p0 ^^^ (-1)) &&& (p0 - 1)) >>> (Int32.toUInt32 16 &&& Int32.toUInt32 31)).toInt32 : Int32) ≤ 256 then (if ((p0 ^^^ (-1)) &&& (p0 - 1)) ≤ 65536 then ((p0 ^^^ (-1)) &&& (p0 - 1)) else (Int32.toUInt32 ((p0 ^^^ (-1)) &&& (p0 - 1)) >>> (Int32.toUInt32 16 &&& Int32.toUInt32 31)).toInt32 : Int32) else (Int32.toUInt32 (if ((p0 ^^^ (-1)) &&& (p0 - 1)) ≤ 65536 then ((p0 ^^^ (-1)) &&& (p0 - 1)) else (Int32.toUInt32 ((p0 ^^^ (-1)) &&& (p0 - 1)) >>> (Int32.toUInt32 16 &&& Int32.toUInt32 31)).toInt32 : Int32) >>> (Int32.toUInt32 8 &&& Int32.toUInt32 31)).toInt32 : Int32) >>> (Int32.toUInt32 4 &&& Int32.toUInt32 31)).toInt32 : Int32) ≤ 4 then (if (if (if ((p0 ^^^ (-1)) &&& (p0 - 1)) ≤ 65536 then ((p0 ^^^ (-1)) &&& (p0 - 1)) else (Int32.toUInt32 ((p0 ^^^ (-1)) &&& (p0 - 1)) >>> (Int32.toUInt32 16 &&& Int32.toUInt32 31)).toInt32 : Int32) ≤ 256 then (if ((p0 ^^^ (-1)) &&& (p0 - 1)) ≤ 65536 then ((p0 ^^^ (-1)) &&& (p0 - 1)) else (Int32.toUInt32 ((p0 ^^^ (-1)) &&& (p0 - 1)) >>> (Int32.toUInt32 16 &&& Int32.toUInt32 31)).toInt32 : Int32) else (Int32.toUInt32 (if ((p0 ^^^ (-1)) &&& (p0 - 1)) ≤ 65536 then ((p0 ^^^ (-1)) &&& (p0 - 1)) else (Int32.toUInt32 ((p0 ^^^ (-1)) &&& (p0 - 1)) >>> (Int32.toUInt32 16 &&& Int32.toUInt32 31)).toInt32 : Int32) >>> (Int32.toUInt32 8 &&& Int32.toUInt32 31)).toInt32 : Int32) ≤ 16 then (if (if ((p0 ^^^ (-1)) &&& (p0 - 1)) ≤ 65536 then ((p0 ^^^ (-1)) &&& (p0 - 1)) else (Int32.toUInt32 ((p0 ^^^ (-1)) &&& (p0 - 1)) >>> (Int32.toUInt32 16 &&& Int32.toUInt32 31)).toInt32 : Int32) ≤ 256 then (if ((p0 ^^^ (-1)) &&& (p0 - 1)) ≤ 65536 then 1 else (1 + 16) : Int32) else ((if ((p0 ^^^ (-1)) &&& (p0 - 1)) ≤ 65536 then 1 else (1 + 16) : Int32) + 8) : Int32) else ((if (if ((p0 ^^^ (-1)) &&& (p0 - 1)) ≤ 65536 then ((p0 ^^^ (-1)) &&& (p0 - 1)) else (Int32.toUInt32 ((p0 ^^^ (-1)) &&& (p0 - 1)) >>> (Int32.toUInt32 16 &&& Int32.toUInt32 31)).toInt32 : Int32) ≤ 256 then (if ((p0 ^^^ (-1)) &&& (p0 - 1)) ≤ 65536 then 1 else (1 + 16) : Int32) else ((if ((p0 ^^^ (-1)) &&& (p0 - 1)) ≤ 65536 then 1 else (1 + 16) : Int32) + 8) : Int32) + 4) : Int32) else ((if (if (if ((p0 ^^^ (-1)) &&& (p0 - 1)) ≤ 65536 then ((p0 ^^^ (-1)) &&& (p0 - 1)) else (Int32.toUInt32 ((p0 ^^^ (-1)) &&& (p0 - 1)) >>> (Int32.toUInt32 16 &&& Int32.toUInt32 31)).toInt32 : Int32) ≤ 256 then (if ((p0 ^^^ (-1)) &&& (p0 - 1)) ≤ 65536 then ((p0 ^^^ (-1)) &&& (p0 - 1)) else (Int32.toUInt32 ((p0 ^^^ (-1)) &&& (p0 - 1)) >>> (Int32.toUInt32 16 &&& Int32.toUInt32 31)).toInt32 : Int32) else (Int32.toUInt32 (if ((p0 ^^^ (-1)) &&& (p0 - 1)) ≤ 65536 then ((p0 ^^^ (-1)) &&& (p0 - 1)) else (Int32.toUInt32 ((p0 ^^^ (-1)) &&& (p0 - 1)) >>> (Int32.toUInt32 16 &&& Int32.toUInt32 31)).toInt32 : Int32) >>> (Int32.toUInt32 8 &&& Int32.toUInt32 31)).toInt32 : Int32) ≤ 16 then (if (if ((p0 ^^^ (-1)) &&& (p0 - 1)) ≤ 65536 then ((p0 ^^^ (-1)) &&& (p0 - 1)) else (Int32.toUInt32 ((p0 ^^^ (-1)) &&& (p0 - 1)) >>> (Int32.toUInt32 16 &&& Int32.toUInt32 31)).toInt32 : Int32) ≤ 256 then (if ((p0 ^^^ (-1)) &&& (p0 - 1)) ≤ 65536 then 1 else (1 + 16) : Int32) else ((if ((p0 ^^^ (-1)) &&& (p0 - 1)) ≤ 65536 then 1 else (1 + 16) : Int32) + 8) : Int32) else ((if (if ((p0 ^^^ (-1)) &&& (p0 - 1)) ≤ 65536 then ((p0 ^^^ (-1)) &&& (p0 - 1)) else (Int32.toUInt32 ((p0 ^^^ (-1)) &&& (p0 - 1)) >>> (Int32.toUInt32 16 &&& Int32.toUInt32 31)).toInt32 : Int32) ≤ 256 then (if ((p0 ^^^ (-1)) &&& (p0 - 1)) ≤ 65536 then 1 else (1 + 16) : Int32) else ((if ((p0 ^^^ (-1)) &&& (p0 - 1)) ≤ 65536 then 1 else (1 + 16) : Int32) + 8) : Int32) + 4) : Int32) + 2) : Int32) + (Int32.toUInt32 (if (if (if (if ((p0 ^^^ (-1)) &&& (p0 - 1)) ≤ 65536 then ((p0 ^^^ (-1)) &&& (p0 - 1)) else (Int32.toUInt32 ((p0 ^^^ (-1)) &&& (p0 - 1)) >>> (Int32.toUInt32 16 &&& Int32.toUInt32 31)).toInt32 : Int32) ≤ 256 then (if ((p0 ^^^ (-1)) &&& (p0 - 1)) ≤ 65536 then ((p0 ^^^ (-1)) &&& (p0 - 1)) else (Int32.toUInt32 ((p0 ^^^ (-1)) &&& (p0 - 1)) >>> (Int32.toUInt32 16 &&& Int32.toUInt32 31)).toInt32 : Int32) else (Int32.toUInt32 (if ((p0 ^^^ (-1)) &&& (p0 - 1)) ≤ 65536 then ((p0 ^^^ (-1)) &&& (p0 - 1)) else (Int32.toUInt32 ((p0 ^^^ (-1)) &&& (p0 - 1)) >>> (Int32.toUInt32 16 &&& Int32.toUInt32 31)).toInt32 : Int32) >>> (Int32.toUInt32 8 &&& Int32.toUInt32 31)).toInt32 : Int32) ≤ 16 then (if (if ((p0 ^^^ (-1)) &&& (p0 - 1)) ≤ 65536 then ((p0 ^^^ (-1)) &&& (p0 - 1)) else (Int32.toUInt32 ((p0 ^^^ (-1)) &&& (p0 - 1)) >>> (Int32.toUInt32 16 &&& Int32.toUInt32 31)).toInt32 : Int32) ≤ 256 then (if ((p0 ^^^ (-1)) &&& (p0 - 1)) ≤ 65536 then ((p0 ^^^ (-1)) &&& (p0 - 1)) else (Int32.toUInt32 ((p0 ^^^ (-1)) &&& (p0 - 1)) >>> (Int32.toUInt32 16 &&& Int32.toUInt32 31)).toInt32 : Int32) else (Int32.toUInt32 (if ((p0 ^^^ (-1)) &&& (p0 - 1)) ≤ 65536 then ((p0 ^^^ (-1)) &&& (p0 - 1)) else (Int32.toUInt32 ((p0 ^^^ (-1)) &&& (p0 - 1)) >>> (Int32.toUInt32 16 &&& Int32.toUInt32 31)).toInt32 : Int32) >>> (Int32.toUInt32 8 &&& Int32.toUInt32 31)).toInt32 : Int32) else (Int32.toUInt32 (if (if ((p0 ^^^ (-1)) &&& (p0 - 1)) ≤ 65536 then ((p0 ^^^ (-1)) &&& (p0 - 1)) else (Int32.toUInt32 ((p0 ^^^ (-1)) &&& (p0 - 1)) >>> (Int32.toUInt32 16 &&& Int32.toUInt32 31)).toInt32 : Int32) ≤ 256 then (if ((p0 ^^^ (-1)) &&& (p0 - 1)) ≤ 65536 then ((p0 ^^^ (-1)) &&& (p0 - 1)) else (Int32.toUInt32 ((p0 ^^^ (-1)) &&& (p0 - 1)) >>> (Int32.toUInt32 16 &&& Int32.toUInt32 31)).toInt32 : Int32) else (Int32.toUInt32 (if ((p0 ^^^ (-1)) &&& (p0 - 1)) ≤ 65536 then ((p0 ^^^ (-1)) &&& (p0 - 1)) else (Int32.toUInt32 ((p0 ^^^ (-1)) &&& (p0 - 1)) >>> (Int32.toUInt32 16 &&& Int32.toUInt32 31)).toInt32 : Int32) >>> (Int32.toUInt32 8 &&& Int32.toUInt32 31)).toInt32 : Int32) >>> (Int32.toUInt32 4 &&& Int32.toUInt32 31)).toInt32 : Int32) ≤ 4 then (if (if (if ((p0 ^^^ (-1)) &&& (p0 - 1)) ≤ 65536 then ((p0 ^^^ (-1)) &&& (p0 - 1)) else (Int32.toUInt32 ((p0 ^^^ (-1)) &&& (p0 - 1)) >>> (Int32.toUInt32 16 &&& Int32.toUInt32 31)).toInt32 : Int32) ≤ 256 then (if ((p0 ^^^ (-1)) &&& (p0 - 1)) ≤ 65536 then ((p0 ^^^ (-1)) &&& (p0 - 1)) else (Int32.toUInt32 ((p0 ^^^ (-1)) &&& (p0 - 1)) >>> (Int32.toUInt32 16 &&& Int32.toUInt32 31)).toInt32 : Int32) else (Int32.toUInt32 (if ((p0 ^^^ (-1)) &&& (p0 - 1)) ≤ 65536 then ((p0 ^^^ (-1)) &&& (p0 - 1)) else (Int32.toUInt32 ((p0 ^^^ (-1)) &&& (p0 - 1)) >>> (Int32.toUInt32 16 &&& Int32.toUInt32 31)).toInt32 : Int32) >>> (Int32.toUInt32 8 &&& Int32.toUInt32 31)).toInt32 : Int32) ≤ 16 then (if (if ((p0 ^^^ (-1)) &&& (p0 - 1)) ≤ 65536 then ((p0 ^^^ (-1)) &&& (p0 - 1)) else (Int32.toUInt32 ((p0 ^^^ (-1)) &&& (p0 - 1)) >>> (Int32.toUInt32 16 &&& Int32.toUInt32 31)).toInt32 : Int32) ≤ 256 then (if ((p0 ^^^ (-1)) &&& (p0 - 1)) ≤ 65536 then ((p0 ^^^ (-1)) &&& (p0 - 1)) else (Int32.toUInt32 ((p0 ^^^ (-1)) &&& (p0 - 1)) >>> (Int32.toUInt32 16 &&& Int32.toUInt32 31)).toInt32 : Int32) else (Int32.toUInt32 (if ((p0 ^^^ (-1)) &&& (p0 - 1)) ≤ 65536 then ((p0 ^^^ (-1)) &&& (p0 - 1)) else (Int32.toUInt32 ((p0 ^^^ (-1)) &&& (p0 - 1)) >>> (Int32.toUInt32 16 &&& Int32.toUInt32 31)).toInt32 : Int32) >>> (Int32.toUInt32 8 &&& Int32.toUInt32 31)).toInt32 : Int32) else (Int32.toUInt32 (if (if ((p0 ^^^ (-1)) &&& (p0 - 1)) ≤ 65536 then ((p0 ^^^ (-1)) &&& (p0 - 1)) else (Int32.toUInt32 ((p0 ^^^ (-1)) &&& (p0 - 1)) >>> (Int32.toUInt32 16 &&& Int32.toUInt32 31)).toInt32 : Int32) ≤ 256 then (if ((p0 ^^^ (-1)) &&& (p0 - 1)) ≤ 65536 then ((p0 ^^^ (-1)) &&& (p0 - 1)) else (Int32.toUInt32 ((p0 ^^^ (-1)) &&& (p0 - 1)) >>> (Int32.toUInt32 16 &&& Int32.toUInt32 31)).toInt32 : Int32) else (Int32.toUInt32 (if ((p0 ^^^ (-1)) &&& (p0 - 1)) ≤ 65536 then ((p0 ^^^ (-1)) &&& (p0 - 1)) else (Int32.toUInt32 ((p0 ^^^ (-1)) &&& (p0 - 1)) >>> (Int32.toUInt32 16 &&& Int32.toUInt32 31)).toInt32 : Int32) >>> (Int32.toUInt32 8 &&& Int32.toUInt32 31)).toInt32 : Int32) >>> (Int32.toUInt32 4 &&& Int32.toUInt32 31)).toInt32 : Int32) else (Int32.toUInt32 (if (if (if ((p0 ^^^ (-1)) &&& (p0 - 1)) ≤ 65536 then ((p0 ^^^ (-1)) &&& (p0 - 1)) else (Int32.toUInt32 ((p0 ^^^ (-1)) &&& (p0 - 1)) >>> (Int32.toUInt32 16 &&& Int32.toUInt32 31)).toInt32 : Int32) ≤ 256 then (if ((p0 ^^^ (-1)) &&& (p0 - 1)) ≤ 65536 then ((p0 ^^^ (-1)) &&& (p0 - 1)) else (Int32.toUInt32 ((p0 ^^^ (-1)) &&& (p0 - 1)) >>> (Int32.toUInt32 16 &&& Int32.toUInt32 31)).toInt32 : Int32) else (Int32.toUInt32 (if ((p0 ^^^ (-1)) &&& (p0 - 1)) ≤ 65536 then ((p0 ^^^ (-1)) &&& (p0 - 1)) else (Int32.toUInt32 ((p0 ^^^ (-1)) &&& (p0 - 1)) >>> (Int32.toUInt32 16 &&& Int32.toUInt32 31)).toInt32 : Int32) >>> (Int32.toUInt32 8 &&& Int32.toUInt32 31)).toInt32 : Int32) ≤ 16 then (if (if ((p0 ^^^ (-1)) &&& (p0 - 1)) ≤ 65536 then ((p0 ^^^ (-1)) &&& (p0 - 1)) else (Int32.toUInt32 ((p0 ^^^ (-1)) &&& (p0 - 1)) >>> (Int32.toUInt32 16 &&& Int32.toUInt32 31)).toInt32 : Int32) ≤ 256 then (if ((p0 ^^^ (-1)) &&& (p0 - 1)) ≤ 65536 then ((p0 ^^^ (-1)) &&& (p0 - 1)) else (Int32.toUInt32 ((p0 ^^^ (-1)) &&& (p0 - 1)) >>> (Int32.toUInt32 16 &&& Int32.toUInt32 31)).toInt32 : Int32) else (Int32.toUInt32 (if ((p0 ^^^ (-1)) &&& (p0 - 1)) ≤ 65536 then ((p0 ^^^ (-1)) &&& (p0 - 1)) else (Int32.toUInt32 ((p0 ^^^ (-1)) &&& (p0 - 1)) >>> (Int32.toUInt32 16 &&& Int32.toUInt32 31)).toInt32 : Int32) >>> (Int32.toUInt32 8 &&& Int32.toUInt32 31)).toInt32 : Int32) else (Int32.toUInt32 (if (if ((p0 ^^^ (-1)) &&& (p0 - 1)) ≤ 65536 then ((p0 ^^^ (-1)) &&& (p0 - 1)) else (Int32.toUInt32 ((p0 ^^^ (-1)) &&& (p0 - 1)) >>> (Int32.toUInt32 16 &&& Int32.toUInt32 31)).toInt32 : Int32) ≤ 256 then (if ((p0 ^^^ (-1)) &&& (p0 - 1)) ≤ 65536 then ((p0 ^^^ (-1)) &&& (p0 - 1)) else (Int32.toUInt32 ((p0 ^^^ (-1)) &&& (p0 - 1)) >>> (Int32.toUInt32 16 &&& Int32.toUInt32 31)).toInt32 : Int32) else (Int32.toUInt32 (if ((p0 ^^^ (-1)) &&& (p0 - 1)) ≤ 65536 then ((p0 ^^^ (-1)) &&& (p0 - 1)) else (Int32.toUInt32 ((p0 ^^^ (-1)) &&& (p0 - 1)) >>> (Int32.toUInt32 16 &&& Int32.toUInt32 31)).toInt32 : Int32) >>> (Int32.toUInt32 8 &&& Int32.toUInt32 31)).toInt32 : Int32) >>> (Int32.toUInt32 4 &&& Int32.toUInt32 31)).toInt32 : Int32) >>> (Int32.toUInt32 2 &&& Int32.toUInt32 31)).toInt32 : Int32) >>> (Int32.toUInt32 1 &&& Int32.toUInt32 31)).toInt32) else (((p0 ^^^ (-1)) &&& (p0 - 1)) &&& 32))
set_option maxRecDepth 20000 in
set_option maxHeartbeats 4000000 in
theorem con_J6_numberOfTrailingZeros_0f7a4 {E : Ex} {Q : Option Value → Mm → Prop} {p0 : Int32} {μ : Mm} (k : Q (some (.int (v_J6_numberOfTrailingZeros_0f7a4 p0))) μ) : Con E 1 mJ6_numberOfTrailingZeros_0f7a4 [.int p0] μ Q := by
  refine Con_J (by decide +kernel) (Nat.le_of_ble_eq_true rfl) (fun G => ?_)
  unfold v_J6_numberOfTrailingZeros_0f7a4 at k
  refine J_sub (ls' := [(0, .int p0)]) [0] rfl ?_
  refine J_iload_n (dk okJ6_numberOfTrailingZeros_0f7a4 0 rfl) 0 rfl rfl ?_
  refine J_iconst (v := (-1)) (dk okJ6_numberOfTrailingZeros_0f7a4 1 rfl) (by decide) ?_
  refine J_ixor (dk okJ6_numberOfTrailingZeros_0f7a4 2 rfl) ?_
  refine J_iload_n (dk okJ6_numberOfTrailingZeros_0f7a4 3 rfl) 0 rfl rfl ?_
  refine J_iconst (v := 1) (dk okJ6_numberOfTrailingZeros_0f7a4 4 rfl) (by decide) ?_
  refine J_isub (dk okJ6_numberOfTrailingZeros_0f7a4 5 rfl) ?_
  refine J_iand (dk okJ6_numberOfTrailingZeros_0f7a4 6 rfl) ?_
  refine J_istore_n (ls' := [(0, _)]) (dk okJ6_numberOfTrailingZeros_0f7a4 7 rfl) rfl (by decide) rfl ?_
  refine J_iload_n (dk okJ6_numberOfTrailingZeros_0f7a4 8 rfl) 0 rfl rfl ?_
  refine J_if_gt (tgt := 17) (dk okJ6_numberOfTrailingZeros_0f7a4 9 rfl) (by decide) (fun h1 => ?_) (fun h1 => ?_)
  · refine J_iconst (v := 1) (dk okJ6_numberOfTrailingZeros_0f7a4 14 rfl) (by decide) ?_
    refine J_istore_n (ls' := [(1, _), (0, _)]) (dk okJ6_numberOfTrailingZeros_0f7a4 15 rfl) rfl (by decide) rfl ?_
    refine J_iload_n (dk okJ6_numberOfTrailingZeros_0f7a4 16 rfl) 1 rfl rfl ?_
    refine J_ldc_w (v := 65536) (dk okJ6_numberOfTrailingZeros_0f7a4 17 rfl) kcJ6_264 ?_
    have K3 : J E G 1 mJ6_numberOfTrailingZeros_0f7a4 Q 34 [(0, .int (if ((p0 ^^^ (-1)) &&& (p0 - 1)) ≤ 65536 then ((p0 ^^^ (-1)) &&& (p0 - 1)) else (Int32.toUInt32 ((p0 ^^^ (-1)) &&& (p0 - 1)) >>> (Int32.toUInt32 16 &&& Int32.toUInt32 31)).toInt32 : Int32)), (1, .int (if ((p0 ^^^ (-1)) &&& (p0 - 1)) ≤ 65536 then 1 else (1 + 16) : Int32))] [] μ := by
      refine J_iload_n (dk okJ6_numberOfTrailingZeros_0f7a4 24 rfl) 0 rfl rfl ?_
      refine J_sipush (v := 256) (dk okJ6_numberOfTrailingZeros_0f7a4 25 rfl) (by decide) ?_
      have K5 : J E G 1 mJ6_numberOfTrailingZeros_0f7a4 Q 49 [(0, .int (if (if ((p0 ^^^ (-1)) &&& (p0 - 1)) ≤ 65536 then ((p0 ^^^ (-1)) &&& (p0 - 1)) else (Int32.toUInt32 ((p0 ^^^ (-1)) &&& (p0 - 1)) >>> (Int32.toUInt32 16 &&& Int32.toUInt32 31)).toInt32 : Int32) ≤ 256 then (if ((p0 ^^^ (-1)) &&& (p0 - 1)) ≤ 65536 then ((p0 ^^^ (-1)) &&& (p0 - 1)) else (Int32.toUInt32 ((p0 ^^^ (-1)) &&& (p0 - 1)) >>> (Int32.toUInt32 16 &&& Int32.toUInt32 31)).toInt32 : Int32) else (Int32.toUInt32 (if ((p0 ^^^ (-1)) &&& (p0 - 1)) ≤ 65536 then ((p0 ^^^ (-1)) &&& (p0 - 1)) else (Int32.toUInt32 ((p0 ^^^ (-1)) &&& (p0 - 1)) >>> (Int32.toUInt32 16 &&& Int32.toUInt32 31)).toInt32 : Int32) >>> (Int32.toUInt32 8 &&& Int32.toUInt32 31)).toInt32 : Int32)), (1, .int (if (if ((p0 ^^^ (-1)) &&& (p0 - 1)) ≤ 65536 then ((p0 ^^^ (-1)) &&& (p0 - 1)) else (Int32.toUInt32 ((p0 ^^^ (-1)) &&& (p0 - 1)) >>> (Int32.toUInt32 16 &&& Int32.toUInt32 31)).toInt32 : Int32) ≤ 256 then (if ((p0 ^^^ (-1)) &&& (p0 - 1)) ≤ 65536 then 1 else (1 + 16) : Int32) else ((if ((p0 ^^^ (-1)) &&& (p0 - 1)) ≤ 65536 then 1 else (1 + 16) : Int32) + 8) : Int32))] [] μ := by
        refine J_iload_n (dk okJ6_numberOfTrailingZeros_0f7a4 32 rfl) 0 rfl rfl ?_
        refine J_bipush (v := 16) (dk okJ6_numberOfTrailingZeros_0f7a4 33 rfl) (by decide) ?_
        have K7 : J E G 1 mJ6_numberOfTrailingZeros_0f7a4 Q 62 [(0, .int (if (if (if ((p0 ^^^ (-1)) &&& (p0 - 1)) ≤ 65536 then ((p0 ^^^ (-1)) &&& (p0 - 1)) else (Int32.toUInt32 ((p0 ^^^ (-1)) &&& (p0 - 1)) >>> (Int32.toUInt32 16 &&& Int32.toUInt32 31)).toInt32 : Int32) ≤ 256 then (if ((p0 ^^^ (-1)) &&& (p0 - 1)) ≤ 65536 then ((p0 ^^^ (-1)) &&& (p0 - 1)) else (Int32.toUInt32 ((p0 ^^^ (-1)) &&& (p0 - 1)) >>> (Int32.toUInt32 16 &&& Int32.toUInt32 31)).toInt32 : Int32) else (Int32.toUInt32 (if ((p0 ^^^ (-1)) &&& (p0 - 1)) ≤ 65536 then ((p0 ^^^ (-1)) &&& (p0 - 1)) else (Int32.toUInt32 ((p0 ^^^ (-1)) &&& (p0 - 1)) >>> (Int32.toUInt32 16 &&& Int32.toUInt32 31)).toInt32 : Int32) >>> (Int32.toUInt32 8 &&& Int32.toUInt32 31)).toInt32 : Int32) ≤ 16 then (if (if ((p0 ^^^ (-1)) &&& (p0 - 1)) ≤ 65536 then ((p0 ^^^ (-1)) &&& (p0 - 1)) else (Int32.toUInt32 ((p0 ^^^ (-1)) &&& (p0 - 1)) >>> (Int32.toUInt32 16 &&& Int32.toUInt32 31)).toInt32 : Int32) ≤ 256 then (if ((p0 ^^^ (-1)) &&& (p0 - 1)) ≤ 65536 then ((p0 ^^^ (-1)) &&& (p0 - 1)) else (Int32.toUInt32 ((p0 ^^^ (-1)) &&& (p0 - 1)) >>> (Int32.toUInt32 16 &&& Int32.toUInt32 31)).toInt32 : Int32) else (Int32.toUInt32 (if ((p0 ^^^ (-1)) &&& (p0 - 1)) ≤ 65536 then ((p0 ^^^ (-1)) &&& (p0 - 1)) else (Int32.toUInt32 ((p0 ^^^ (-1)) &&& (p0 - 1)) >>> (Int32.toUInt32 16 &&& Int32.toUInt32 31)).toInt32 : Int32) >>> (Int32.toUInt32 8 &&& Int32.toUInt32 31)).toInt32 : Int32) else (Int32.toUInt32 (if (if ((p0 ^^^ (-1)) &&& (p0 - 1)) ≤ 65536 then ((p0 ^^^ (-1)) &&& (p0 - 1)) else (Int32.toUInt32 ((p0 ^^^ (-1)) &&& (p0 - 1)) >>> (Int32.toUInt32 16 &&& Int32.toUInt32 31)).toInt32 : Int32) ≤ 256 then (if ((p0 ^^^ (-1)) &&& (p0 - 1)) ≤ 65536 then ((p0 ^^^ (-1)) &&& (p0 - 1)) else (Int32.toUInt32 ((p0 ^^^ (-1)) &&& (p0 - 1)) >>> (Int32.toUInt32 16 &&& Int32.toUInt32 31)).toInt32 : Int32) else (Int32.toUInt32 (if ((p0 ^^^ (-1)) &&& (p0 - 1)) ≤ 65536 then ((p0 ^^^ (-1)) &&& (p0 - 1)) else (Int32.toUInt32 ((p0 ^^^ (-1)) &&& (p0 - 1)) >>> (Int32.toUInt32 16 &&& Int32.toUInt32 31)).toInt32 : Int32) >>> (Int32.toUInt32 8 &&& Int32.toUInt32 31)).toInt32 : Int32) >>> (Int32.toUInt32 4 &&& Int32.toUInt32 31)).toInt32 : Int32)), (1, .int (if (if (if ((p0 ^^^ (-1)) &&& (p0 - 1)) ≤ 65536 then ((p0 ^^^ (-1)) &&& (p0 - 1)) else (Int32.toUInt32 ((p0 ^^^ (-1)) &&& (p0 - 1)) >>> (Int32.toUInt32 16 &&& Int32.toUInt32 31)).toInt32 : Int32) ≤ 256 then (if ((p0 ^^^ (-1)) &&& (p0 - 1)) ≤ 65536 then ((p0 ^^^ (-1)) &&& (p0 - 1)) else (Int32.toUInt32 ((p0 ^^^ (-1)) &&& (p0 - 1)) >>> (Int32.toUInt32 16 &&& Int32.toUInt32 31)).toInt32 : Int32) else (Int32.toUInt32 (if ((p0 ^^^ (-1)) &&& (p0 - 1)) ≤ 65536 then ((p0 ^^^ (-1)) &&& (p0 - 1)) else (Int32.toUInt32 ((p0 ^^^ (-1)) &&& (p0 - 1)) >>> (Int32.toUInt32 16 &&& Int32.toUInt32 31)).toInt32 : Int32) >>> (Int32.toUInt32 8 &&& Int32.toUInt32 31)).toInt32 : Int32) ≤ 16 then (if (if ((p0 ^^^ (-1)) &&& (p0 - 1)) ≤ 65536 then ((p0 ^^^ (-1)) &&& (p0 - 1)) else (Int32.toUInt32 ((p0 ^^^ (-1)) &&& (p0 - 1)) >>> (Int32.toUInt32 16 &&& Int32.toUInt32 31)).toInt32 : Int32) ≤ 256 then (if ((p0 ^^^ (-1)) &&& (p0 - 1)) ≤ 65536 then 1 else (1 + 16) : Int32) else ((if ((p0 ^^^ (-1)) &&& (p0 - 1)) ≤ 65536 then 1 else (1 + 16) : Int32) + 8) : Int32) else ((if (if ((p0 ^^^ (-1)) &&& (p0 - 1)) ≤ 65536 then ((p0 ^^^ (-1)) &&& (p0 - 1)) else (Int32.toUInt32 ((p0 ^^^ (-1)) &&& (p0 - 1)) >>> (Int32.toUInt32 16 &&& Int32.toUInt32 31)).toInt32 : Int32) ≤ 256 then (if ((p0 ^^^ (-1)) &&& (p0 - 1)) ≤ 65536 then 1 else (1 + 16) : Int32) else ((if ((p0 ^^^ (-1)) &&& (p0 - 1)) ≤ 65536 then 1 else (1 + 16) : Int32) + 8) : Int32) + 4) : Int32))] [] μ := by
          refine J_iload_n (dk okJ6_numberOfTrailingZeros_0f7a4 40 rfl) 0 rfl rfl ?_
          refine J_iconst (v := 4) (dk okJ6_numberOfTrailingZeros_0f7a4 41 rfl) (by decide) ?_
          have K9 : J E G 1 mJ6_numberOfTrailingZeros_0f7a4 Q 74 [(0, .int (if (if (if (if ((p0 ^^^ (-1)) &&& (p0 - 1)) ≤ 65536 then ((p0 ^^^ (-1)) &&& (p0 - 1)) else (Int32.toUInt32 ((p0 ^^^ (-1)) &&& (p0 - 1)) >>> (Int32.toUInt32 16 &&& Int32.toUInt32 31)).toInt32 : Int32) ≤ 256 then (if ((p0 ^^^ (-1)) &&& (p0 - 1)) ≤ 65536 then ((p0 ^^^ (-1)) &&& (p0 - 1)) else (Int32.toUInt32 ((p0 ^^^ (-1)) &&& (p0 - 1)) >>> (Int32.toUInt32 16 &&& Int32.toUInt32 31)).toInt32 : Int32) else (Int32.toUInt32 (if ((p0 ^^^ (-1)) &&& (p0 - 1)) ≤ 65536 then ((p0 ^^^ (-1)) &&& (p0 - 1)) else (Int32.toUInt32 ((p0 ^^^ (-1)) &&& (p0 - 1)) >>> (Int32.toUInt32 16 &&& Int32.toUInt32 31)).toInt32 : Int32) >>> (Int32.toUInt32 8 &&& Int32.toUInt32 31)).toInt32 : Int32) ≤ 16 then (if (if ((p0 ^^^ (-1)) &&& (p0 - 1)) ≤ 65536 then ((p0 ^^^ (-1)) &&& (p0 - 1)) else (Int32.toUInt32 ((p0 ^^^ (-1)) &&& (p0 - 1)) >>> (Int32.toUInt32 16 &&& Int32.toUInt32 31)).toInt32 : Int32) ≤ 256 then (if ((p0 ^^^ (-1)) &&& (p0 - 1)) ≤ 65536 then ((p0 ^^^ (-1)) &&& (p0 - 1)) else (Int32.toUInt32 ((p0 ^^^ (-1)) &&& (p0 - 1)) >>> (Int32.toUInt32 16 &&& Int32.toUInt32 31)).toInt32 : Int32) else (Int32.toUInt32 (if ((p0 ^^^ (-1)) &&& (p0 - 1)) ≤ 65536 then ((p0 ^^^ (-1)) &&& (p0 - 1)) else (Int32.toUInt32 ((p0 ^^^ (-1)) &&& (p0 - 1)) >>> (Int32.toUInt32 16 &&& Int32.toUInt32 31)).toInt32 : Int32) >>> (Int32.toUInt32 8 &&& Int32.toUInt32 31)).toInt32 : Int32) else (Int32.toUInt32 (if (if ((p0 ^^^ (-1)) &&& (p0 - 1)) ≤ 65536 then ((p0 ^^^ (-1)) &&& (p0 - 1)) else (Int32.toUInt32 ((p0 ^^^ (-1)) &&& (p0 - 1)) >>> (Int32.toUInt32 16 &&& Int32.toUInt32 31)).toInt32 : Int32) ≤ 256 then (if ((p0 ^^^ (-1)) &&& (p0 - 1)) ≤ 65536 then ((p0 ^^^ (-1)) &&& (p0 - 1)) else (Int32.toUInt32 ((p0 ^^^ (-1)) &&& (p0 - 1)) >>> (Int32.toUInt32 16 &&& Int32.toUInt32 31)).toInt32 : Int32) else (Int32.toUInt32 (if ((p0 ^^^ (-1)) &&& (p0 - 1)) ≤ 65536 then ((p0 ^^^ (-1)) &&& (p0 - 1)) else (Int32.toUInt32 ((p0 ^^^ (-1)) &&& (p0 - 1)) >>> (Int32.toUInt32 16 &&& Int32.toUInt32 31)).toInt32 : Int32) >>> (Int32.toUInt32 8 &&& Int32.toUInt32 31)).toInt32 : Int32) >>> (Int32.toUInt32 4 &&& Int32.toUInt32 31)).toInt32 : Int32) ≤ 4 then (if (if (if ((p0 ^^^ (-1)) &&& (p0 - 1)) ≤ 65536 then ((p0 ^^^ (-1)) &&& (p0 - 1)) else (Int32.toUInt32 ((p0 ^^^ (-1)) &&& (p0 - 1)) >>> (Int32.toUInt32 16 &&& Int32.toUInt32 31)).toInt32 : Int32) ≤ 256 then (if ((p0 ^^^ (-1)) &&& (p0 - 1)) ≤ 65536 then ((p0 ^^^ (-1)) &&& (p0 - 1)) else (Int32.toUInt32 ((p0 ^^^ (-1)) &&& (p0 - 1)) >>> (Int32.toUInt32 16 &&& Int32.toUInt32 31)).toInt32 : Int32) else (Int32.toUInt32 (if ((p0 ^^^ (-1)) &&& (p0 - 1)) ≤ 65536 then ((p0 ^^^ (-1)) &&& (p0 - 1)) else (Int32.toUInt32 ((p0 ^^^ (-1)) &&& (p0 - 1)) >>> (Int32.toUInt32 16 &&& Int32.toUInt32 31)).toInt32 : Int32) >>> (Int32.toUInt32 8 &&& Int32.toUInt32 31)).toInt32 : Int32) ≤ 16 then (if (if ((p0 ^^^ (-1)) &&& (p0 - 1)) ≤ 65536 then ((p0 ^^^ (-1)) &&& (p0 - 1)) else (Int32.toUInt32 ((p0 ^^^ (-1)) &&& (p0 - 1)) >>> (Int32.toUInt32 16 &&& Int32.toUInt32 31)).toInt32 : Int32) ≤ 256 then (if ((p0 ^^^ (-1)) &&& (p0 - 1)) ≤ 65536 then ((p0 ^^^ (-1)) &&& (p0 - 1)) else (Int32.toUInt32 ((p0 ^^^ (-1)) &&& (p0 - 1)) >>> (Int32.toUInt32 16 &&& Int32.toUInt32 31)).toInt32 : Int32) else (Int32.toUInt32 (if ((p0 ^^^ (-1)) &&& (p0 - 1)) ≤ 65536 then ((p0 ^^^ (-1)) &&& (p0 - 1)) else (Int32.toUInt32 ((p0 ^^^ (-1)) &&& (p0 - 1)) >>> (Int32.toUInt32 16 &&& Int32.toUInt32 31)).toInt32 : Int32) >>> (Int32.toUInt32 8 &&& Int32.toUInt32 31)).toInt32 : Int32) else (Int32.toUInt32 (if (if ((p0 ^^^ (-1)) &&& (p0 - 1)) ≤ 65536 then ((p0 ^^^ (-1)) &&& (p0 - 1)) else (Int32.toUInt32 ((p0 ^^^ (-1)) &&& (p0 - 1)) >>> (Int32.toUInt32 16 &&& Int32.toUInt32 31)).toInt32 : Int32) ≤ 256 then (if ((p0 ^^^ (-1)) &&& (p0 - 1)) ≤ 65536 then ((p0 ^^^ (-1)) &&& (p0 - 1)) else (Int32.toUInt32 ((p0 ^^^ (-1)) &&& (p0 - 1)) >>> (Int32.toUInt32 16 &&& Int32.toUInt32 31)).toInt32 : Int32) else (Int32.toUInt32 (if ((p0 ^^^ (-1)) &&& (p0 - 1)) ≤ 65536 then ((p0 ^^^ (-1)) &&& (p0 - 1)) else (Int32.toUInt32 ((p0 ^^^ (-1)) &&& (p0 - 1)) >>> (Int32.toUInt32 16 &&& Int32.toUInt32 31)).toInt32 : Int32) >>> (Int32.toUInt32 8 &&& Int32.toUInt32 31)).toInt32 : Int32) >>> (Int32.toUInt32 4 &&& Int32.toUInt32 31)).toInt32 : Int32) else (Int32.toUInt32 (if (if (if ((p0 ^^^ (-1)) &&& (p0 - 1)) ≤ 65536 then ((p0 ^^^ (-1)) &&& (p0 - 1)) else (Int32.toUInt32 ((p0 ^^^ (-1)) &&& (p0 - 1)) >>> (Int32.toUInt32 16 &&& Int32.toUInt32 31)).toInt32 : Int32) ≤ 256 then (if ((p0 ^^^ (-1)) &&& (p0 - 1)) ≤ 65536 then ((p0 ^^^ (-1)) &&& (p0 - 1)) else (Int32.toUInt32 ((p0 ^^^ (-1)) &&& (p0 - 1)) >>> (Int32.toUInt32 16 &&& Int32.toUInt32 31)).toInt32 : Int32) else (Int32.toUInt32 (if ((p0 ^^^ (-1)) &&& (p0 - 1)) ≤ 65536 then ((p0 ^^^ (-1)) &&& (p0 - 1)) else (Int32.toUInt32 ((p0 ^^^ (-1)) &&& (p0 - 1)) >>> (Int32.toUInt32 16 &&& Int32.toUInt32 31)).toInt32 : Int32) >>> (Int32.toUInt32 8 &&& Int32.toUInt32 31)).toInt32 : Int32) ≤ 16 then (if (if ((p0 ^^^ (-1)) &&& (p0 - 1)) ≤ 65536 then ((p0 ^^^ (-1)) &&& (p0 - 1)) else (Int32.toUInt32 ((p0 ^^^ (-1)) &&& (p0 - 1)) >>> (Int32.toUInt32 16 &&& Int32.toUInt32 31)).toInt32 : Int32) ≤ 256 then (if ((p0 ^^^ (-1)) &&& (p0 - 1)) ≤ 65536 then ((p0 ^^^ (-1)) &&& (p0 - 1)) else (Int32.toUInt32 ((p0 ^^^ (-1)) &&& (p0 - 1)) >>> (Int32.toUInt32 16 &&& Int32.toUInt32 31)).toInt32 : Int32) else (Int32.toUInt32 (if ((p0 ^^^ (-1)) &&& (p0 - 1)) ≤ 65536 then ((p0 ^^^ (-1)) &&& (p0 - 1)) else (Int32.toUInt32 ((p0 ^^^ (-1)) &&& (p0 - 1)) >>> (Int32.toUInt32 16 &&& Int32.toUInt32 31)).toInt32 : Int32) >>> (Int32.toUInt32 8 &&& Int32.toUInt32 31)).toInt32 : Int32) else (Int32.toUInt32 (if (if ((p0 ^^^ (-1)) &&& (p0 - 1)) ≤ 65536 then ((p0 ^^^ (-1)) &&& (p0 - 1)) else (Int32.toUInt32 ((p0 ^^^ (-1)) &&& (p0 - 1)) >>> (Int32.toUInt32 16 &&& Int32.toUInt32 31)).toInt32 : Int32) ≤ 256 then (if ((p0 ^^^ (-1)) &&& (p0 - 1)) ≤ 65536 then ((p0 ^^^ (-1)) &&& (p0 - 1)) else (Int32.toUInt32 ((p0 ^^^ (-1)) &&& (p0 - 1)) >>> (Int32.toUInt32 16 &&& Int32.toUInt32 31)).toInt32 : Int32) else (Int32.toUInt32 (if ((p0 ^^^ (-1)) &&& (p0 - 1)) ≤ 65536 then ((p0 ^^^ (-1)) &&& (p0 - 1)) else (Int32.toUInt32 ((p0 ^^^ (-1)) &&& (p0 - 1)) >>> (Int32.toUInt32 16 &&& Int32.toUInt32 31)).toInt32 : Int32) >>> (Int32.toUInt32 8 &&& Int32.toUInt32 31)).toInt32 : Int32) >>> (Int32.toUInt32 4 &&& Int32.toUInt32 31)).toInt32 : Int32) >>> (Int32.toUInt32 2 &&& Int32.toUInt32 31)).toInt32 : Int32)), (1, .int (if (if (if (if ((p0 ^^^ (-1)) &&& (p0 - 1)) ≤ 65536 then ((p0 ^^^ (-1)) &&& (p0 - 1)) else (Int32.toUInt32 ((p0 ^^^ (-1)) &&& (p0 - 1)) >>> (Int32.toUInt32 16 &&& Int32.toUInt32 31)).toInt32 : Int32) ≤ 256 then (if ((p0 ^^^ (-1)) &&& (p0 - 1)) ≤ 65536 then ((p0 ^^^ (-1)) &&& (p0 - 1)) else (Int32.toUInt32 ((p0 ^^^ (-1)) &&& (p0 - 1)) >>> (Int32.toUInt32 16 &&& Int32.toUInt32 31)).toInt32 : Int32) else (Int32.toUInt32 (if ((p0 ^^^ (-1)) &&& (p0 - 1)) ≤ 65536 then ((p0 ^^^ (-1)) &&& (p0 - 1)) else (Int32.toUInt32 ((p0 ^^^ (-1)) &&& (p0 - 1)) >>> (Int32.toUInt32 16 &&& Int32.toUInt32 31)).toInt32 : Int32) >>> (Int32.toUInt32 8 &&& Int32.toUInt32 31)).toInt32 : Int32) ≤ 16 then (if (if ((p0 ^^^ (-1)) &&& (p0 - 1)) ≤ 65536 then ((p0 ^^^ (-1)) &&& (p0 - 1)) else (Int32.toUInt32 ((p0 ^^^ (-1)) &&& (p0 - 1)) >>> (Int32.toUInt32 16 &&& Int32.toUInt32 31)).toInt32 : Int32) ≤ 256 then (if ((p0 ^^^ (-1)) &&& (p0 - 1)) ≤ 65536 then ((p0 ^^^ (-1)) &&& (p0 - 1)) else (Int32.toUInt32 ((p0 ^^^ (-1)) &&& (p0 - 1)) >>> (Int32.toUInt32 16 &&& Int32.toUInt32 31)).toInt32 : Int32) else (Int32.toUInt32 (if ((p0 ^^^ (-1)) &&& (p0 - 1)) ≤ 65536 then ((p0 ^^^ (-1)) &&& (p0 - 1)) else (Int32.toUInt32 ((p0 ^^^ (-1)) &&& (p0 - 1)) >>> (Int32.toUInt32 16 &&& Int32.toUInt32 31)).toInt32 : Int32) >>> (Int32.toUInt32 8 &&& Int32.toUInt32 31)).toInt32 : Int32) else (Int32.toUInt32 (if (if ((p0 ^^^ (-1)) &&& (p0 - 1)) ≤ 65536 then ((p0 ^^^ (-1)) &&& (p0 - 1)) else (Int32.toUInt32 ((p0 ^^^ (-1)) &&& (p0 - 1)) >>> (Int32.toUInt32 16 &&& Int32.toUInt32 31)).toInt32 : Int32) ≤ 256 then (if ((p0 ^^^ (-1)) &&& (p0 - 1)) ≤ 65536 then ((p0 ^^^ (-1)) &&& (p0 - 1)) else (Int32.toUInt32 ((p0 ^^^ (-1)) &&& (p0 - 1)) >>> (Int32.toUInt32 16 &&& Int32.toUInt32 31)).toInt32 : Int32) else (Int32.toUInt32 (if ((p0 ^^^ (-1)) &&& (p0 - 1)) ≤ 65536 then ((p0 ^^^ (-1)) &&& (p0 - 1)) else (Int32.toUInt32 ((p0 ^^^ (-1)) &&& (p0 - 1)) >>> (Int32.toUInt32 16 &&& Int32.toUInt32 31)).toInt32 : Int32) >>> (Int32.toUInt32 8 &&& Int32.toUInt32 31)).toInt32 : Int32) >>> (Int32.toUInt32 4 &&& Int32.toUInt32 31)).toInt32 : Int32) ≤ 4 then (if (if (if ((p0 ^^^ (-1)) &&& (p0 - 1)) ≤ 65536 then ((p0 ^^^ (-1)) &&& (p0 - 1)) else (Int32.toUInt32 ((p0 ^^^ (-1)) &&& (p0 - 1)) >>> (Int32.toUInt32 16 &&& Int32.toUInt32 31)).toInt32 : Int32) ≤ 256 then (if ((p0 ^^^ (-1)) &&& (p0 - 1)) ≤ 65536 then ((p0 ^^^ (-1)) &&& (p0 - 1)) else (Int32.toUInt32 ((p0 ^^^ (-1)) &&& (p0 - 1)) >>> (Int32.toUInt32 16 &&& Int32.toUInt32 31)).toInt32 : Int32) else (Int32.toUInt32 (if ((p0 ^^^ (-1)) &&& (p0 - 1)) ≤ 65536 then ((p0 ^^^ (-1)) &&& (p0 - 1)) else (Int32.toUInt32 ((p0 ^^^ (-1)) &&& (p0 - 1)) >>> (Int32.toUInt32 16 &&& Int32.toUInt32 31)).toInt32 : Int32) >>> (Int32.toUInt32 8 &&& Int32.toUInt32 31)).toInt32 : Int32) ≤ 16 then (if (if ((p0 ^^^ (-1)) &&& (p0 - 1)) ≤ 65536 then ((p0 ^^^ (-1)) &&& (p0 - 1)) else (Int32.toUInt32 ((p0 ^^^ (-1)) &&& (p0 - 1)) >>> (Int32.toUInt32 16 &&& Int32.toUInt32 31)).toInt32 : Int32) ≤ 256 then (if ((p0 ^^^ (-1)) &&& (p0 - 1)) ≤ 65536 then 1 else (1 + 16) : Int32) else ((if ((p0 ^^^ (-1)) &&& (p0 - 1)) ≤ 65536 then 1 else (1 + 16) : Int32) + 8) : Int32) else ((if (if ((p0 ^^^ (-1)) &&& (p0 - 1)) ≤ 65536 then ((p0 ^^^ (-1)) &&& (p0 - 1)) else (Int32.toUInt32 ((p0 ^^^ (-1)) &&& (p0 - 1)) >>> (Int32.toUInt32 16 &&& Int32.toUInt32 31)).toInt32 : Int32) ≤ 256 then (if ((p0 ^^^ (-1)) &&& (p0 - 1)) ≤ 65536 then 1 else (1 + 16) : Int32) else ((if ((p0 ^^^ (-1)) &&& (p0 - 1)) ≤ 65536 then 1 else (1 + 16) : Int32) + 8) : Int32) + 4) : Int32) else ((if (if (if ((p0 ^^^ (-1)) &&& (p0 - 1)) ≤ 65536 then ((p0 ^^^ (-1)) &&& (p0 - 1)) else (Int32.toUInt32 ((p0 ^^^ (-1)) &&& (p0 - 1)) >>> (Int32.toUInt32 16 &&& Int32.toUInt32 31)).toInt32 : Int32) ≤ 256 then (if ((p0 ^^^ (-1)) &&& (p0 - 1)) ≤ 65536 then ((p0 ^^^ (-1)) &&& (p0 - 1)) else (Int32.toUInt32 ((p0 ^^^ (-1)) &&& (p0 - 1)) >>> (Int32.toUInt32 16 &&& Int32.toUInt32 31)).toInt32 : Int32) else (Int32.toUInt32 (if ((p0 ^^^ (-1)) &&& (p0 - 1)) ≤ 65536 then ((p0 ^^^ (-1)) &&& (p0 - 1)) else (Int32.toUInt32 ((p0 ^^^ (-1)) &&& (p0 - 1)) >>> (Int32.toUInt32 16 &&& Int32.toUInt32 31)).toInt32 : Int32) >>> (Int32.toUInt32 8 &&& Int32.toUInt32 31)).toInt32 : Int32) ≤ 16 then (if (if ((p0 ^^^ (-1)) &&& (p0 - 1)) ≤ 65536 then ((p0 ^^^ (-1)) &&& (p0 - 1)) else (Int32.toUInt32 ((p0 ^^^ (-1)) &&& (p0 - 1)) >>> (Int32.toUInt32 16 &&& Int32.toUInt32 31)).toInt32 : Int32) ≤ 256 then (if ((p0 ^^^ (-1)) &&& (p0 - 1)) ≤ 65536 then 1 else (1 + 16) : Int32) else ((if ((p0 ^^^ (-1)) &&& (p0 - 1)) ≤ 65536 then 1 else (1 + 16) : Int32) + 8) : Int32) else ((if (if ((p0 ^^^ (-1)) &&& (p0 - 1)) ≤ 65536 then ((p0 ^^^ (-1)) &&& (p0 - 1)) else (Int32.toUInt32 ((p0 ^^^ (-1)) &&& (p0 - 1)) >>> (Int32.toUInt32 16 &&& Int32.toUInt32 31)).toInt32 : Int32) ≤ 256 then (if ((p0 ^^^ (-1)) &&& (p0 - 1)) ≤ 65536 then 1 else (1 + 16) : Int32) else ((if ((p0 ^^^ (-1)) &&& (p0 - 1)) ≤ 65536 then 1 else (1 + 16) : Int32) + 8) : Int32) + 4) : Int32) + 2) : Int32))] [] μ := by
            refine J_iload_n (dk okJ6_numberOfTrailingZeros_0f7a4 48 rfl) 1 rfl rfl ?_
            refine J_iload_n (dk okJ6_numberOfTrailingZeros_0f7a4 49 rfl) 0 rfl rfl ?_
            refine J_iconst (v := 1) (dk okJ6_numberOfTrailingZeros_0f7a4 50 rfl) (by decide) ?_
            refine J_iushr (dk okJ6_numberOfTrailingZeros_0f7a4 51 rfl) ?_
            refine J_iadd (dk okJ6_numberOfTrailingZeros_0f7a4 52 rfl) ?_
            (try simp only [if_pos h1] at k ⊢)
            exact J_iret (dk okJ6_numberOfTrailingZeros_0f7a4 53 rfl) rfl k
          refine J_icmp_le (tgt := 74) (dk okJ6_numberOfTrailingZeros_0f7a4 42 rfl) (by decide) (fun h8 => ?_) (fun h8 => ?_)
          · refine J_sub (ls' := [(0, _), (1, _)]) [0, 1] rfl ?_
            (try simp only [if_pos h8] at K9 ⊢); exact K9
          · refine J_iinc (v := ((if (if (if ((p0 ^^^ (-1)) &&& (p0 - 1)) ≤ 65536 then ((p0 ^^^ (-1)) &&& (p0 - 1)) else (Int32.toUInt32 ((p0 ^^^ (-1)) &&& (p0 - 1)) >>> (Int32.toUInt32 16 &&& Int32.toUInt32 31)).toInt32 : Int32) ≤ 256 then (if ((p0 ^^^ (-1)) &&& (p0 - 1)) ≤ 65536 then ((p0 ^^^ (-1)) &&& (p0 - 1)) else (Int32.toUInt32 ((p0 ^^^ (-1)) &&& (p0 - 1)) >>> (Int32.toUInt32 16 &&& Int32.toUInt32 31)).toInt32 : Int32) else (Int32.toUInt32 (if ((p0 ^^^ (-1)) &&& (p0 - 1)) ≤ 65536 then ((p0 ^^^ (-1)) &&& (p0 - 1)) else (Int32.toUInt32 ((p0 ^^^ (-1)) &&& (p0 - 1)) >>> (Int32.toUInt32 16 &&& Int32.toUInt32 31)).toInt32 : Int32) >>> (Int32.toUInt32 8 &&& Int32.toUInt32 31)).toInt32 : Int32) ≤ 16 then (if (if ((p0 ^^^ (-1)) &&& (p0 - 1)) ≤ 65536 then ((p0 ^^^ (-1)) &&& (p0 - 1)) else (Int32.toUInt32 ((p0 ^^^ (-1)) &&& (p0 - 1)) >>> (Int32.toUInt32 16 &&& Int32.toUInt32 31)).toInt32 : Int32) ≤ 256 then (if ((p0 ^^^ (-1)) &&& (p0 - 1)) ≤ 65536 then 1 else (1 + 16) : Int32) else ((if ((p0 ^^^ (-1)) &&& (p0 - 1)) ≤ 65536 then 1 else (1 + 16) : Int32) + 8) : Int32) else ((if (if ((p0 ^^^ (-1)) &&& (p0 - 1)) ≤ 65536 then ((p0 ^^^ (-1)) &&& (p0 - 1)) else (Int32.toUInt32 ((p0 ^^^ (-1)) &&& (p0 - 1)) >>> (Int32.toUInt32 16 &&& Int32.toUInt32 31)).toInt32 : Int32) ≤ 256 then (if ((p0 ^^^ (-1)) &&& (p0 - 1)) ≤ 65536 then 1 else (1 + 16) : Int32) else ((if ((p0 ^^^ (-1)) &&& (p0 - 1)) ≤ 65536 then 1 else (1 + 16) : Int32) + 8) : Int32) + 4) : Int32) + 2)) (ls' := [(1, _), (0, _)]) (dk okJ6_numberOfTrailingZeros_0f7a4 43 rfl) 1 rfl rfl (by decide) rfl ?_
            refine J_iload_n (dk okJ6_numberOfTrailingZeros_0f7a4 44 rfl) 1 rfl rfl ?_
            refine J_iconst (v := 2) (dk okJ6_numberOfTrailingZeros_0f7a4 45 rfl) (by decide) ?_
            refine J_iushr (dk okJ6_numberOfTrailingZeros_0f7a4 46 rfl) ?_
            refine J_istore_n (ls' := [(0, _), (1, _)]) (dk okJ6_numberOfTrailingZeros_0f7a4 47 rfl) rfl (by decide) rfl ?_
            refine J_sub (ls' := [(0, _), (1, _)]) [0, 1] rfl ?_
            (try simp only [if_neg h8] at K9 ⊢); exact K9
        refine J_icmp_le (tgt := 62) (dk okJ6_numberOfTrailingZeros_0f7a4 34 rfl) (by decide) (fun h6 => ?_) (fun h6 => ?_)
        · refine J_sub (ls' := [(0, _), (1, _)]) [0, 1] rfl ?_
          (try simp only [if_pos h6] at K7 ⊢); exact K7
        · refine J_iinc (v := ((if (if ((p0 ^^^ (-1)) &&& (p0 - 1)) ≤ 65536 then ((p0 ^^^ (-1)) &&& (p0 - 1)) else (Int32.toUInt32 ((p0 ^^^ (-1)) &&& (p0 - 1)) >>> (Int32.toUInt32 16 &&& Int32.toUInt32 31)).toInt32 : Int32) ≤ 256 then (if ((p0 ^^^ (-1)) &&& (p0 - 1)) ≤ 65536 then 1 else (1 + 16) : Int32) else ((if ((p0 ^^^ (-1)) &&& (p0 - 1)) ≤ 65536 then 1 else (1 + 16) : Int32) + 8) : Int32) + 4)) (ls' := [(1, _), (0, _)]) (dk okJ6_numberOfTrailingZeros_0f7a4 35 rfl) 1 rfl rfl (by decide) rfl ?_
          refine J_iload_n (dk okJ6_numberOfTrailingZeros_0f7a4 36 rfl) 1 rfl rfl ?_
          refine J_iconst (v := 4) (dk okJ6_numberOfTrailingZeros_0f7a4 37 rfl) (by decide) ?_
          refine J_iushr (dk okJ6_numberOfTrailingZeros_0f7a4 38 rfl) ?_
          refine J_istore_n (ls' := [(0, _), (1, _)]) (dk okJ6_numberOfTrailingZeros_0f7a4 39 rfl) rfl (by decide) rfl ?_
          refine J_sub (ls' := [(0, _), (1, _)]) [0, 1] rfl ?_
          (try simp only [if_neg h6] at K7 ⊢); exact K7
      refine J_icmp_le (tgt := 49) (dk okJ6_numberOfTrailingZeros_0f7a4 26 rfl) (by decide) (fun h4 => ?_) (fun h4 => ?_)
      · refine J_sub (ls' := [(0, _), (1, _)]) [0, 1] rfl ?_
        (try simp only [if_pos h4] at K5 ⊢); exact K5
      · refine J_iinc (v := ((if ((p0 ^^^ (-1)) &&& (p0 - 1)) ≤ 65536 then 1 else (1 + 16) : Int32) + 8)) (ls' := [(1, _), (0, _)]) (dk okJ6_numberOfTrailingZeros_0f7a4 27 rfl) 1 rfl rfl (by decide) rfl ?_
        refine J_iload_n (dk okJ6_numberOfTrailingZeros_0f7a4 28 rfl) 1 rfl rfl ?_
        refine J_bipush (v := 8) (dk okJ6_numberOfTrailingZeros_0f7a4 29 rfl) (by decide) ?_
        refine J_iushr (dk okJ6_numberOfTrailingZeros_0f7a4 30 rfl) ?_
        refine J_istore_n (ls' := [(0, _), (1, _)]) (dk okJ6_numberOfTrailingZeros_0f7a4 31 rfl) rfl (by decide) rfl ?_
        refine J_sub (ls' := [(0, _), (1, _)]) [0, 1] rfl ?_
        (try simp only [if_neg h4] at K5 ⊢); exact K5
    refine J_icmp_le (tgt := 34) (dk okJ6_numberOfTrailingZeros_0f7a4 18 rfl) (by decide) (fun h2 => ?_) (fun h2 => ?_)
    · refine J_sub (ls' := [(0, _), (1, _)]) [1, 0] rfl ?_
      (try simp only [if_pos h2] at K3 ⊢); exact K3
    · refine J_iinc (v := (1 + 16)) (ls' := [(1, _), (0, _)]) (dk okJ6_numberOfTrailingZeros_0f7a4 19 rfl) 0 rfl rfl (by decide) rfl ?_
      refine J_iload_n (dk okJ6_numberOfTrailingZeros_0f7a4 20 rfl) 1 rfl rfl ?_
      refine J_bipush (v := 16) (dk okJ6_numberOfTrailingZeros_0f7a4 21 rfl) (by decide) ?_
      refine J_iushr (dk okJ6_numberOfTrailingZeros_0f7a4 22 rfl) ?_
      refine J_istore_n (ls' := [(0, _), (1, _)]) (dk okJ6_numberOfTrailingZeros_0f7a4 23 rfl) rfl (by decide) rfl ?_
      refine J_sub (ls' := [(0, _), (1, _)]) [0, 1] rfl ?_
      (try simp only [if_neg h2] at K3 ⊢); exact K3
  · refine J_iload_n (dk okJ6_numberOfTrailingZeros_0f7a4 10 rfl) 0 rfl rfl ?_
    refine J_bipush (v := 32) (dk okJ6_numberOfTrailingZeros_0f7a4 11 rfl) (by decide) ?_
    refine J_iand (dk okJ6_numberOfTrailingZeros_0f7a4 12 rfl) ?_
    (try simp only [if_neg h1] at k ⊢)
    exact J_iret (dk okJ6_numberOfTrailingZeros_0f7a4 13 rfl) rfl k
/-- VotingFloor$Draws.below(I)I -/
def v_X0_below (p0 : Int32) (μ : Mm) : Int32 := (let μ1 : Mm := (upI μ 45 0 (((μ.1 45 0) * 1103515245) + 12345)); (if p0 ≤ 0 then 0 else ((Int32.toUInt32 (μ1.1 45 0) >>> (Int32.toUInt32 16 &&& Int32.toUInt32 31)).toInt32 - (Int32.toUInt32 (μ1.1 45 0) >>> (Int32.toUInt32 16 &&& Int32.toUInt32 31)).toInt32 / p0 * p0) : Int32))
def e_X0_below (p0 : Int32) (μ : Mm) : Mm := (let μ1 : Mm := (upI μ 45 0 (((μ.1 45 0) * 1103515245) + 12345)); μ1)
def p_X0_below (p0 : Int32)  (μ : Mm) : Prop := (∀ μ1 : Mm, μ1 = (upI μ 45 0 (((μ.1 45 0) * 1103515245) + 12345)) → (¬ (p0 ≤ 0) → ¬ p0 = 0))
set_option maxRecDepth 20000 in
set_option maxHeartbeats 4000000 in
theorem con_X0_below {E : Ex} {Q : Option Value → Mm → Prop} {p0 : Int32} {μ : Mm} (t : p_X0_below p0  μ) (k : Q (some (.int (v_X0_below p0 μ))) (e_X0_below p0 μ)) : Con E 1 mX0_below [rf E 45, .int p0] μ Q := by
  refine Con_J (by decide +kernel) (Nat.le_of_ble_eq_true rfl) (fun G => ?_)
  unfold v_X0_below e_X0_below at k
  unfold p_X0_below at t
  refine J_sub (ls' := [(0, rf E 45), (1, .int p0)]) [0, 1] rfl ?_
  refine J_aload_n (dk okX0_below 0 rfl) 0 rfl rfl ?_
  refine J_aload_n (dk okX0_below 1 rfl) 0 rfl rfl ?_
  refine J_getI (dk okX0_below 2 rfl) kfX0_7 ds_45 rfl ?_
  refine J_ldc (v := 1103515245) (dk okX0_below 3 rfl) kcX0_13 ?_
  refine J_imul (dk okX0_below 4 rfl) ?_
  refine J_sipush (v := 12345) (dk okX0_below 5 rfl) (by decide) ?_
  refine J_iadd (dk okX0_below 6 rfl) ?_
  refine J_put (dk okX0_below 7 rfl) kpX0_7 ds_45 rfl rfl rfl ?_
  refine J_nm (fun μ1 eμ1 => ?_)
  have t := t μ1 eμ1
  refine J_iload_n (dk okX0_below 8 rfl) 1 rfl rfl ?_
  have K4 : J E G 1 mX0_below Q 32 [] [.int (if p0 ≤ 0 then 0 else ((Int32.toUInt32 (μ1.1 45 0) >>> (Int32.toUInt32 16 &&& Int32.toUInt32 31)).toInt32 - (Int32.toUInt32 (μ1.1 45 0) >>> (Int32.toUInt32 16 &&& Int32.toUInt32 31)).toInt32 / p0 * p0) : Int32)] μ1 := by
    subst eμ1
    exact J_iret (dk okX0_below 18 rfl) rfl k
  refine J_if_le (tgt := 31) (dk okX0_below 9 rfl) (by decide) (fun h2 => ?_) (fun h2 => ?_)
  · refine J_iconst (v := 0) (dk okX0_below 17 rfl) (by decide) ?_
    refine J_sub (ls' := []) [] rfl ?_
    (try simp only [if_pos h2] at K4 ⊢); exact K4
  · have t := t h2
    refine J_aload_n (dk okX0_below 10 rfl) 0 rfl rfl ?_
    refine J_getI (dk okX0_below 11 rfl) kfX0_7 ds_45 rfl ?_
    refine J_bipush (v := 16) (dk okX0_below 12 rfl) (by decide) ?_
    refine J_iushr (dk okX0_below 13 rfl) ?_
    refine J_iload_n (dk okX0_below 14 rfl) 1 rfl rfl ?_
    have s3 := t
    refine J_irem (dk okX0_below 15 rfl) s3 ?_
    refine J_goto (tgt := 32) (dk okX0_below 16 rfl) (by decide) ?_
    refine J_sub (ls' := []) [] rfl ?_
    (try simp only [if_neg h2] at K4 ⊢); exact K4
/-- VotingFloor$Draws.start(I)V -/
def e_X0_start (p0 : Int32) (μ : Mm) : Mm := (let μ1 : Mm := (upI μ 45 0 p0); μ1)
set_option maxRecDepth 20000 in
set_option maxHeartbeats 4000000 in
theorem con_X0_start {E : Ex} {Q : Option Value → Mm → Prop} {p0 : Int32} {μ : Mm} (k : Q none (e_X0_start p0 μ)) : Con E 1 mX0_start [rf E 45, .int p0] μ Q := by
  refine Con_J (by decide +kernel) (Nat.le_of_ble_eq_true rfl) (fun G => ?_)
  unfold e_X0_start at k
  refine J_sub (ls' := [(0, rf E 45), (1, .int p0)]) [0, 1] rfl ?_
  refine J_aload_n (dk okX0_start 0 rfl) 0 rfl rfl ?_
  refine J_iload_n (dk okX0_start 1 rfl) 1 rfl rfl ?_
  refine J_put (dk okX0_start 2 rfl) kpX0_7 ds_45 rfl rfl rfl ?_
  refine J_nm (fun μ1 eμ1 => ?_)
  subst eμ1
  exact J_vret (dk okX0_start 3 rfl) rfl k
/-- VotingFloor$Told.add(J)V -/
def e_X10_add (p0 : Int64) (μ : Mm) : Mm := (let μ5 : Mm := (if 16 ≤ (μ.1 27 1) then μ else ((upI ((upJ μ 28 (Int32.toNatClampNeg (μ.1 27 1)) p0)) 27 1 ((((upJ μ 28 (Int32.toNatClampNeg (μ.1 27 1)) p0)).1 27 1) + 1))) : Mm); μ5)
def p_X10_add (p0 : Int64)  (μ : Mm) : Prop := (¬ (16 ≤ (μ.1 27 1)) → vp_in (μ.1 27 1) 16)
set_option maxRecDepth 20000 in
set_option maxHeartbeats 4000000 in
theorem con_X10_add {E : Ex} {Q : Option Value → Mm → Prop} {p0 : Int64} {μ : Mm} (t : p_X10_add p0  μ) (k : Q none (e_X10_add p0 μ)) : Con E 1 mX10_add [rf E 27, .long p0] μ Q := by
  refine Con_J (by decide +kernel) (Nat.le_of_ble_eq_true rfl) (fun G => ?_)
  unfold e_X10_add at k
  unfold p_X10_add at t
  refine J_sub (ls' := [(0, rf E 27), (1, .long p0)]) [0, 1] rfl ?_
  refine J_aload_n (dk okX10_add 0 rfl) 0 rfl rfl ?_
  refine J_getI (dk okX10_add 1 rfl) kfX10_13 ds_27 rfl ?_
  refine J_bipush (v := 16) (dk okX10_add 2 rfl) (by decide) ?_
  have K6 : J E G 1 mX10_add Q 29 [] [] (if 16 ≤ (μ.1 27 1) then μ else ((upI ((upJ μ 28 (Int32.toNatClampNeg (μ.1 27 1)) p0)) 27 1 ((((upJ μ 28 (Int32.toNatClampNeg (μ.1 27 1)) p0)).1 27 1) + 1))) : Mm) := by
    refine J_nm (fun μ5 eμ5 => ?_)
    subst eμ5
    exact J_vret (dk okX10_add 16 rfl) rfl k
  refine J_icmp_ge (tgt := 29) (dk okX10_add 3 rfl) (by decide) (fun h1 => ?_) (fun h1 => ?_)
  · refine J_sub (ls' := []) [] rfl ?_
    (try simp only [if_pos h1] at K6 ⊢); exact K6
  · have t := t h1
    refine J_aload_n (dk okX10_add 4 rfl) 0 rfl rfl ?_
    refine J_getR (dk okX10_add 5 rfl) kfX10_9 ds_27 rfl ?_
    refine J_aload_n (dk okX10_add 6 rfl) 0 rfl rfl ?_
    refine J_getI (dk okX10_add 7 rfl) kfX10_13 ds_27 rfl ?_
    refine J_lload_n (dk okX10_add 8 rfl) 1 rfl rfl ?_
    have s2 := t
    refine J_last (dk okX10_add 9 rfl) ds_28 s2 ?_
    refine J_nm (fun μ3 eμ3 => ?_)
    refine J_aload_n (dk okX10_add 10 rfl) 0 rfl rfl ?_
    refine J_dup (dk okX10_add 11 rfl) rfl ?_
    refine J_getI (dk okX10_add 12 rfl) kfX10_13 ds_27 rfl ?_
    refine J_iconst (v := 1) (dk okX10_add 13 rfl) (by decide) ?_
    refine J_iadd (dk okX10_add 14 rfl) ?_
    refine J_put (dk okX10_add 15 rfl) kpX10_13 ds_27 rfl rfl rfl ?_
    refine J_nm (fun μ4 eμ4 => ?_)
    subst eμ4 eμ3
    refine J_sub (ls' := []) [] rfl ?_
    (try simp only [if_neg h1] at K6 ⊢); exact K6
/-- VotingFloor$Told.begin()V -/
def e_X10_begin  (μ : Mm) : Mm := (let μ1 : Mm := (upI μ 27 1 0); μ1)
set_option maxRecDepth 20000 in
set_option maxHeartbeats 4000000 in
theorem con_X10_begin {E : Ex} {Q : Option Value → Mm → Prop} {μ : Mm} (k : Q none (e_X10_begin  μ)) : Con E 1 mX10_begin [rf E 27] μ Q := by
  refine Con_J (by decide +kernel) (Nat.le_of_ble_eq_true rfl) (fun G => ?_)
  unfold e_X10_begin at k
  refine J_sub (ls' := [(0, rf E 27)]) [0] rfl ?_
  refine J_aload_n (dk okX10_begin 0 rfl) 0 rfl rfl ?_
  refine J_iconst (v := 0) (dk okX10_begin 1 rfl) (by decide) ?_
  refine J_put (dk okX10_begin 2 rfl) kpX10_13 ds_27 rfl rfl rfl ?_
  refine J_nm (fun μ1 eμ1 => ?_)
  subst eμ1
  exact J_vret (dk okX10_begin 3 rfl) rfl k
/-- VotingFloor.denies()I -/
def v_X11_denies  (μ : Mm) : Int32 := (μ.1 42 2)
def e_X11_denies  (μ : Mm) : Mm := (let μ1 : Mm := (upI μ 42 2 0); μ1)
set_option maxRecDepth 20000 in
set_option maxHeartbeats 4000000 in
theorem con_X11_denies {E : Ex} {Q : Option Value → Mm → Prop} {μ : Mm} (k : Q (some (.int (v_X11_denies  μ))) (e_X11_denies  μ)) : Con E 1 mX11_denies [rf E 0] μ Q := by
  refine Con_J (by decide +kernel) (Nat.le_of_ble_eq_true rfl) (fun G => ?_)
  unfold v_X11_denies e_X11_denies at k
  refine J_sub (ls' := [(0, rf E 0)]) [0] rfl ?_
  refine J_aload_n (dk okX11_denies 0 rfl) 0 rfl rfl ?_
  refine J_getR (dk okX11_denies 1 rfl) kfX11_74 ds_0 rfl ?_
  refine J_getI (dk okX11_denies 2 rfl) kfX11_360 ds_42 rfl ?_
  refine J_istore_n (ls' := [(1, _), (0, _)]) (dk okX11_denies 3 rfl) rfl (by decide) rfl ?_
  refine J_aload_n (dk okX11_denies 4 rfl) 1 rfl rfl ?_
  refine J_getR (dk okX11_denies 5 rfl) kfX11_74 ds_0 rfl ?_
  refine J_iconst (v := 0) (dk okX11_denies 6 rfl) (by decide) ?_
  refine J_put (dk okX11_denies 7 rfl) kpX11_360 ds_42 rfl rfl rfl ?_
  refine J_nm (fun μ1 eμ1 => ?_)
  refine J_iload_n (dk okX11_denies 8 rfl) 0 rfl rfl ?_
  subst eμ1
  exact J_iret (dk okX11_denies 9 rfl) rfl k
/-- VotingFloor.direction(I)I -/
def v_X11_direction (p0 : Int32) : Int32 := (if p0 ≤ 0 then (if 0 ≤ p0 then 0 else (-1) : Int32) else 1 : Int32)
set_option maxRecDepth 20000 in
set_option maxHeartbeats 4000000 in
theorem con_X11_direction {E : Ex} {Q : Option Value → Mm → Prop} {p0 : Int32} {μ : Mm} (k : Q (some (.int (v_X11_direction p0))) μ) : Con E 1 mX11_direction [.int p0] μ Q := by
  refine Con_J (by decide +kernel) (Nat.le_of_ble_eq_true rfl) (fun G => ?_)
  unfold v_X11_direction at k
  refine J_sub (ls' := [(0, .int p0)]) [0] rfl ?_
  refine J_iload_n (dk okX11_direction 0 rfl) 0 rfl rfl ?_
  have K3 : J E G 1 mX11_direction Q 17 [] [.int (if p0 ≤ 0 then (if 0 ≤ p0 then 0 else (-1) : Int32) else 1 : Int32)] μ := by
    exact J_iret (dk okX11_direction 9 rfl) rfl k
  refine J_if_le (tgt := 8) (dk okX11_direction 1 rfl) (by decide) (fun h1 => ?_) (fun h1 => ?_)
  · refine J_iload_n (dk okX11_direction 4 rfl) 0 rfl rfl ?_
    refine J_if_ge (tgt := 16) (dk okX11_direction 5 rfl) (by decide) (fun h2 => ?_) (fun h2 => ?_)
    · refine J_iconst (v := 0) (dk okX11_direction 8 rfl) (by decide) ?_
      refine J_sub (ls' := []) [] rfl ?_
      (try simp only [if_pos h1, if_pos h2] at K3 ⊢); exact K3
    · refine J_iconst (v := (-1)) (dk okX11_direction 6 rfl) (by decide) ?_
      refine J_goto (tgt := 17) (dk okX11_direction 7 rfl) (by decide) ?_
      refine J_sub (ls' := []) [] rfl ?_
      (try simp only [if_pos h1, if_neg h2] at K3 ⊢); exact K3
  · refine J_iconst (v := 1) (dk okX11_direction 2 rfl) (by decide) ?_
    refine J_goto (tgt := 17) (dk okX11_direction 3 rfl) (by decide) ?_
    refine J_sub (ls' := []) [] rfl ?_
    (try simp only [if_neg h1] at K3 ⊢); exact K3
/-- VotingFloor.forget()I -/
def v_X11_forget  (μ : Mm) : Int32 := (μ.1 38 3)
def e_X11_forget  (μ : Mm) : Mm := (let μ1 : Mm := (upI μ 38 3 0); μ1)
set_option maxRecDepth 20000 in
set_option maxHeartbeats 4000000 in
theorem con_X11_forget {E : Ex} {Q : Option Value → Mm → Prop} {μ : Mm} (k : Q (some (.int (v_X11_forget  μ))) (e_X11_forget  μ)) : Con E 1 mX11_forget [rf E 0] μ Q := by
  refine Con_J (by decide +kernel) (Nat.le_of_ble_eq_true rfl) (fun G => ?_)
  unfold v_X11_forget e_X11_forget at k
  refine J_sub (ls' := [(0, rf E 0)]) [0] rfl ?_
  refine J_aload_n (dk okX11_forget 0 rfl) 0 rfl rfl ?_
  refine J_getR (dk okX11_forget 1 rfl) kfX11_67 ds_0 rfl ?_
  refine J_getI (dk okX11_forget 2 rfl) kfX11_335 ds_38 rfl ?_
  refine J_istore_n (ls' := [(1, _), (0, _)]) (dk okX11_forget 3 rfl) rfl (by decide) rfl ?_
  refine J_aload_n (dk okX11_forget 4 rfl) 1 rfl rfl ?_
  refine J_getR (dk okX11_forget 5 rfl) kfX11_67 ds_0 rfl ?_
  refine J_iconst (v := 0) (dk okX11_forget 6 rfl) (by decide) ?_
  refine J_put (dk okX11_forget 7 rfl) kpX11_335 ds_38 rfl rfl rfl ?_
  refine J_nm (fun μ1 eμ1 => ?_)
  refine J_iload_n (dk okX11_forget 8 rfl) 0 rfl rfl ?_
  subst eμ1
  exact J_iret (dk okX11_forget 9 rfl) rfl k
/-- VotingFloor.gained(III)I -/
def v_X11_gained (p0 : Int32) (p1 : Int32) (p2 : Int32) : Int32 := (if p0 = p1 then (-(p0 / 2)) else (if p0 ≤ p1 then 0 else (p2 - ((p0 + p1) / 3)) : Int32))
set_option maxRecDepth 20000 in
set_option maxHeartbeats 4000000 in
theorem con_X11_gained {E : Ex} {Q : Option Value → Mm → Prop} {p0 : Int32} {p1 : Int32} {p2 : Int32} {μ : Mm} (k : Q (some (.int (v_X11_gained p0 p1 p2))) μ) : Con E 1 mX11_gained [.int p0, .int p1, .int p2] μ Q := by
  refine Con_J (by decide +kernel) (Nat.le_of_ble_eq_true rfl) (fun G => ?_)
  unfold v_X11_gained at k
  refine J_sub (ls' := [(0, .int p0), (1, .int p1), (2, .int p2)]) [0, 1, 2] rfl ?_
  refine J_iload_n (dk okX11_gained 0 rfl) 0 rfl rfl ?_
  refine J_iload_n (dk okX11_gained 1 rfl) 1 rfl rfl ?_
  refine J_icmp_ne (tgt := 10) (dk okX11_gained 2 rfl) (by decide) (fun h1 => ?_) (fun h1 => ?_)
  · refine J_iload_n (dk okX11_gained 8 rfl) 0 rfl rfl ?_
    refine J_iload_n (dk okX11_gained 9 rfl) 1 rfl rfl ?_
    have K3 : J E G 1 mX11_gained Q 26 [] [.int (if p0 ≤ p1 then 0 else (p2 - ((p0 + p1) / 3)) : Int32)] μ := by
      (try simp only [if_neg h1] at k ⊢)
      exact J_iret (dk okX11_gained 20 rfl) rfl k
    refine J_icmp_le (tgt := 25) (dk okX11_gained 10 rfl) (by decide) (fun h2 => ?_) (fun h2 => ?_)
    · refine J_iconst (v := 0) (dk okX11_gained 19 rfl) (by decide) ?_
      refine J_sub (ls' := []) [] rfl ?_
      (try simp only [if_pos h2] at K3 ⊢); exact K3
    · refine J_iload_n (dk okX11_gained 11 rfl) 2 rfl rfl ?_
      refine J_iload_n (dk okX11_gained 12 rfl) 0 rfl rfl ?_
      refine J_iload_n (dk okX11_gained 13 rfl) 1 rfl rfl ?_
      refine J_iadd (dk okX11_gained 14 rfl) ?_
      refine J_iconst (v := 3) (dk okX11_gained 15 rfl) (by decide) ?_
      refine J_idiv (dk okX11_gained 16 rfl) (by decide) ?_
      refine J_isub (dk okX11_gained 17 rfl) ?_
      refine J_goto (tgt := 26) (dk okX11_gained 18 rfl) (by decide) ?_
      refine J_sub (ls' := []) [] rfl ?_
      (try simp only [if_neg h2] at K3 ⊢); exact K3
  · refine J_iload_n (dk okX11_gained 3 rfl) 0 rfl rfl ?_
    refine J_iconst (v := 2) (dk okX11_gained 4 rfl) (by decide) ?_
    refine J_idiv (dk okX11_gained 5 rfl) (by decide) ?_
    refine J_ineg (dk okX11_gained 6 rfl) ?_
    (try simp only [if_pos h1] at k ⊢)
    exact J_iret (dk okX11_gained 7 rfl) rfl k
/-- VotingFloor.isIn(II)Z -/
def v_X11_isIn (p0 : Int32) (p1 : Int32) : Int32 := (if ((p0 >>> (p1 &&& 31)) &&& 1) = 0 then 0 else 1 : Int32)
set_option maxRecDepth 20000 in
set_option maxHeartbeats 4000000 in
theorem con_X11_isIn {E : Ex} {Q : Option Value → Mm → Prop} {p0 : Int32} {p1 : Int32} {μ : Mm} (k : Q (some (.int (v_X11_isIn p0 p1))) μ) : Con E 1 mX11_isIn [.int p0, .int p1] μ Q := by
  refine Con_J (by decide +kernel) (Nat.le_of_ble_eq_true rfl) (fun G => ?_)
  unfold v_X11_isIn at k
  refine J_sub (ls' := [(0, .int p0), (1, .int p1)]) [0, 1] rfl ?_
  refine J_iload_n (dk okX11_isIn 0 rfl) 0 rfl rfl ?_
  refine J_iload_n (dk okX11_isIn 1 rfl) 1 rfl rfl ?_
  refine J_ishr (dk okX11_isIn 2 rfl) ?_
  refine J_iconst (v := 1) (dk okX11_isIn 3 rfl) (by decide) ?_
  refine J_iand (dk okX11_isIn 4 rfl) ?_
  have K2 : J E G 1 mX11_isIn Q 13 [] [.int (if ((p0 >>> (p1 &&& 31)) &&& 1) = 0 then 0 else 1 : Int32)] μ := by
    exact J_zret (dk okX11_isIn 9 rfl) rfl (by (repeat' split) <;> first | rfl | (simp only [*]; rfl)) k
  refine J_if_eq (tgt := 12) (dk okX11_isIn 5 rfl) (by decide) (fun h1 => ?_) (fun h1 => ?_)
  · refine J_iconst (v := 0) (dk okX11_isIn 8 rfl) (by decide) ?_
    refine J_sub (ls' := []) [] rfl ?_
    (try simp only [if_pos h1] at K2 ⊢); exact K2
  · refine J_iconst (v := 1) (dk okX11_isIn 6 rfl) (by decide) ?_
    refine J_goto (tgt := 13) (dk okX11_isIn 7 rfl) (by decide) ?_
    refine J_sub (ls' := []) [] rfl ?_
    (try simp only [if_neg h1] at K2 ⊢); exact K2
theorem nb_X11_isIn (p0 : Int32) (p1 : Int32) : narrow .boolean (.int (v_X11_isIn p0 p1)) = .int (v_X11_isIn p0 p1) := by
  unfold v_X11_isIn; (repeat' split) <;> rfl
/-- VotingFloorModel.all()I -/
def v_X12_all  (μ : Mm) : Int32 := ((1 <<< ((μ.1 49 3) &&& 31)) - 1)
set_option maxRecDepth 20000 in
set_option maxHeartbeats 4000000 in
theorem con_X12_all {E : Ex} {Q : Option Value → Mm → Prop} {μ : Mm} (k : Q (some (.int (v_X12_all  μ))) μ) : Con E 1 mX12_all [rf E 49] μ Q := by
  refine Con_J (by decide +kernel) (Nat.le_of_ble_eq_true rfl) (fun G => ?_)
  unfold v_X12_all at k
  refine J_sub (ls' := [(0, rf E 49)]) [0] rfl ?_
  refine J_iconst (v := 1) (dk okX12_all 0 rfl) (by decide) ?_
  refine J_aload_n (dk okX12_all 1 rfl) 0 rfl rfl ?_
  refine J_getI (dk okX12_all 2 rfl) kfX12_111 ds_49 rfl ?_
  refine J_ishl (dk okX12_all 3 rfl) ?_
  refine J_iconst (v := 1) (dk okX12_all 4 rfl) (by decide) ?_
  refine J_isub (dk okX12_all 5 rfl) ?_
  exact J_iret (dk okX12_all 6 rfl) rfl k
/-- VotingFloorModel.becomes(III)I -/
def v_X12_becomes (p0 : Int32) (p1 : Int32) (p2 : Int32) (μ : Mm) : Int32 := (if (μ.1 52 (Int32.toNatClampNeg p0)) = p1 then (-2) else ((μ.1 52 (Int32.toNatClampNeg p0)) + p2) : Int32)
def e_X12_becomes (p0 : Int32) (p1 : Int32) (p2 : Int32) (μ : Mm) : Mm := (let μ3 : Mm := (upI μ 52 (Int32.toNatClampNeg p0) p1); μ3)
def p_X12_becomes (p0 : Int32) (p1 : Int32) (p2 : Int32)  : Prop := (vp_in p0 24) ∧ vp_in p0 24
set_option maxRecDepth 20000 in
set_option maxHeartbeats 4000000 in
theorem con_X12_becomes {E : Ex} {Q : Option Value → Mm → Prop} {p0 : Int32} {p1 : Int32} {p2 : Int32} {μ : Mm} (t : p_X12_becomes p0 p1 p2 ) (k : Q (some (.int (v_X12_becomes p0 p1 p2 μ))) (e_X12_becomes p0 p1 p2 μ)) : Con E 1 mX12_becomes [rf E 49, .int p0, .int p1, .int p2] μ Q := by
  refine Con_J (by decide +kernel) (Nat.le_of_ble_eq_true rfl) (fun G => ?_)
  unfold v_X12_becomes e_X12_becomes at k
  unfold p_X12_becomes at t
  refine J_sub (ls' := [(0, rf E 49), (1, .int p0), (2, .int p1), (3, .int p2)]) [0, 1, 2, 3] rfl ?_
  refine J_aload_n (dk okX12_becomes 0 rfl) 0 rfl rfl ?_
  refine J_getR (dk okX12_becomes 1 rfl) kfX12_32 ds_49 rfl ?_
  refine J_iload_n (dk okX12_becomes 2 rfl) 1 rfl rfl ?_
  obtain ⟨s1, t⟩ := t
  refine J_iald (dk okX12_becomes 3 rfl) ds_52 s1 ?_
  refine J_istore (ls' := [(4, _), (0, _), (1, _), (2, _), (3, _)]) (dk okX12_becomes 4 rfl) (by decide) rfl ?_
  refine J_aload_n (dk okX12_becomes 5 rfl) 1 rfl rfl ?_
  refine J_getR (dk okX12_becomes 6 rfl) kfX12_32 ds_49 rfl ?_
  refine J_iload_n (dk okX12_becomes 7 rfl) 2 rfl rfl ?_
  refine J_iload_n (dk okX12_becomes 8 rfl) 3 rfl rfl ?_
  have s2 := t
  refine J_iast (dk okX12_becomes 9 rfl) ds_52 s2 ?_
  refine J_nm (fun μ3 eμ3 => ?_)
  refine J_iload (dk okX12_becomes 10 rfl) 0 rfl ?_
  refine J_iload_n (dk okX12_becomes 11 rfl) 3 rfl rfl ?_
  have K5 : J E G 1 mX12_becomes Q 30 [] [.int (if (μ.1 52 (Int32.toNatClampNeg p0)) = p1 then (-2) else ((μ.1 52 (Int32.toNatClampNeg p0)) + p2) : Int32)] μ3 := by
    subst eμ3
    exact J_iret (dk okX12_becomes 18 rfl) rfl k
  refine J_icmp_ne (tgt := 26) (dk okX12_becomes 12 rfl) (by decide) (fun h4 => ?_) (fun h4 => ?_)
  · refine J_iload (dk okX12_becomes 15 rfl) 0 rfl ?_
    refine J_iload_n (dk okX12_becomes 16 rfl) 4 rfl rfl ?_
    refine J_iadd (dk okX12_becomes 17 rfl) ?_
    refine J_sub (ls' := []) [] rfl ?_
    (try simp only [if_neg h4] at K5 ⊢); exact K5
  · refine J_bipush (v := (-2)) (dk okX12_becomes 13 rfl) (by decide) ?_
    refine J_goto (tgt := 30) (dk okX12_becomes 14 rfl) (by decide) ?_
    refine J_sub (ls' := []) [] rfl ?_
    (try simp only [if_pos h4] at K5 ⊢); exact K5
/-- VotingFloorModel.codes(I)V -/
def e_X12_codes (p0 : Int32) (μ : Mm) : Mm := (let μ2 : Mm := (upI μ 58 (Int32.toNatClampNeg (μ.1 49 20)) p0); (let μ3 : Mm := (upI μ2 49 20 ((μ2.1 49 20) + 1)); μ3))
def p_X12_codes (p0 : Int32)  (μ : Mm) : Prop := vp_in (μ.1 49 20) 80
set_option maxRecDepth 20000 in
set_option maxHeartbeats 4000000 in
theorem con_X12_codes {E : Ex} {Q : Option Value → Mm → Prop} {p0 : Int32} {μ : Mm} (t : p_X12_codes p0  μ) (k : Q none (e_X12_codes p0 μ)) : Con E 1 mX12_codes [rf E 49, .int p0] μ Q := by
  refine Con_J (by decide +kernel) (Nat.le_of_ble_eq_true rfl) (fun G => ?_)
  unfold e_X12_codes at k
  unfold p_X12_codes at t
  refine J_sub (ls' := [(0, rf E 49), (1, .int p0)]) [0, 1] rfl ?_
  refine J_aload_n (dk okX12_codes 0 rfl) 0 rfl rfl ?_
  refine J_getR (dk okX12_codes 1 rfl) kfX12_50 ds_49 rfl ?_
  refine J_aload_n (dk okX12_codes 2 rfl) 0 rfl rfl ?_
  refine J_getI (dk okX12_codes 3 rfl) kfX12_219 ds_49 rfl ?_
  refine J_iload_n (dk okX12_codes 4 rfl) 1 rfl rfl ?_
  have s1 := t
  refine J_iast (dk okX12_codes 5 rfl) ds_58 s1 ?_
  refine J_nm (fun μ2 eμ2 => ?_)
  refine J_aload_n (dk okX12_codes 6 rfl) 0 rfl rfl ?_
  refine J_dup (dk okX12_codes 7 rfl) rfl ?_
  refine J_getI (dk okX12_codes 8 rfl) kfX12_219 ds_49 rfl ?_
  refine J_iconst (v := 1) (dk okX12_codes 9 rfl) (by decide) ?_
  refine J_iadd (dk okX12_codes 10 rfl) ?_
  refine J_put (dk okX12_codes 11 rfl) kpX12_219 ds_49 rfl rfl rfl ?_
  refine J_nm (fun μ3 eμ3 => ?_)
  subst eμ3 eμ2
  exact J_vret (dk okX12_codes 12 rfl) rfl k
/-- VotingFloorModel.denies()I -/
def v_X12_denies  (μ : Mm) : Int32 := (let μ1 : Mm := (upI μ 49 0 0); (μ1.1 49 36))
def e_X12_denies  (μ : Mm) : Mm := (let μ1 : Mm := (upI μ 49 0 0); (let μ2 : Mm := (upI μ1 49 36 0); μ2))
set_option maxRecDepth 20000 in
set_option maxHeartbeats 4000000 in
theorem con_X12_denies {E : Ex} {Q : Option Value → Mm → Prop} {μ : Mm} (k : Q (some (.int (v_X12_denies  μ))) (e_X12_denies  μ)) : Con E 1 mX12_denies [rf E 49] μ Q := by
  refine Con_J (by decide +kernel) (Nat.le_of_ble_eq_true rfl) (fun G => ?_)
  unfold v_X12_denies e_X12_denies at k
  refine J_sub (ls' := [(0, rf E 49)]) [0] rfl ?_
  refine J_aload_n (dk okX12_denies 0 rfl) 0 rfl rfl ?_
  refine J_iconst (v := 0) (dk okX12_denies 1 rfl) (by decide) ?_
  refine J_put (dk okX12_denies 2 rfl) kpX12_3 ds_49 rfl rfl rfl ?_
  refine J_nm (fun μ1 eμ1 => ?_)
  refine J_aload_n (dk okX12_denies 3 rfl) 0 rfl rfl ?_
  refine J_getI (dk okX12_denies 4 rfl) kfX12_418 ds_49 rfl ?_
  refine J_istore_n (ls' := [(1, _), (0, _)]) (dk okX12_denies 5 rfl) rfl (by decide) rfl ?_
  refine J_aload_n (dk okX12_denies 6 rfl) 1 rfl rfl ?_
  refine J_iconst (v := 0) (dk okX12_denies 7 rfl) (by decide) ?_
  refine J_put (dk okX12_denies 8 rfl) kpX12_418 ds_49 rfl rfl rfl ?_
  refine J_nm (fun μ2 eμ2 => ?_)
  refine J_iload_n (dk okX12_denies 9 rfl) 0 rfl rfl ?_
  subst eμ2 eμ1
  exact J_iret (dk okX12_denies 10 rfl) rfl k
/-- VotingFloorModel.draws(I)I -/
def v_X12_draws (p0 : Int32) (μ : Mm) : Int32 := (let μ1 : Mm := (upI μ 49 41 (((μ.1 49 41) * 1103515245) + 12345)); ((Int32.toUInt32 (μ1.1 49 41) >>> (Int32.toUInt32 16 &&& Int32.toUInt32 31)).toInt32 - (Int32.toUInt32 (μ1.1 49 41) >>> (Int32.toUInt32 16 &&& Int32.toUInt32 31)).toInt32 / p0 * p0))
def e_X12_draws (p0 : Int32) (μ : Mm) : Mm := (let μ1 : Mm := (upI μ 49 41 (((μ.1 49 41) * 1103515245) + 12345)); μ1)
def p_X12_draws (p0 : Int32)  (μ : Mm) : Prop := (∀ μ1 : Mm, μ1 = (upI μ 49 41 (((μ.1 49 41) * 1103515245) + 12345)) → ¬ p0 = 0)
set_option maxRecDepth 20000 in
set_option maxHeartbeats 4000000 in
theorem con_X12_draws {E : Ex} {Q : Option Value → Mm → Prop} {p0 : Int32} {μ : Mm} (t : p_X12_draws p0  μ) (k : Q (some (.int (v_X12_draws p0 μ))) (e_X12_draws p0 μ)) : Con E 1 mX12_draws [rf E 49, .int p0] μ Q := by
  refine Con_J (by decide +kernel) (Nat.le_of_ble_eq_true rfl) (fun G => ?_)
  unfold v_X12_draws e_X12_draws at k
  unfold p_X12_draws at t
  refine J_sub (ls' := [(0, rf E 49), (1, .int p0)]) [0, 1] rfl ?_
  refine J_aload_n (dk okX12_draws 0 rfl) 0 rfl rfl ?_
  refine J_aload_n (dk okX12_draws 1 rfl) 0 rfl rfl ?_
  refine J_getI (dk okX12_draws 2 rfl) kfX12_438 ds_49 rfl ?_
  refine J_ldc_w (v := 1103515245) (dk okX12_draws 3 rfl) kcX12_441 ?_
  refine J_imul (dk okX12_draws 4 rfl) ?_
  refine J_sipush (v := 12345) (dk okX12_draws 5 rfl) (by decide) ?_
  refine J_iadd (dk okX12_draws 6 rfl) ?_
  refine J_put (dk okX12_draws 7 rfl) kpX12_438 ds_49 rfl rfl rfl ?_
  refine J_nm (fun μ1 eμ1 => ?_)
  have t := t μ1 eμ1
  refine J_aload_n (dk okX12_draws 8 rfl) 0 rfl rfl ?_
  refine J_getI (dk okX12_draws 9 rfl) kfX12_438 ds_49 rfl ?_
  refine J_bipush (v := 16) (dk okX12_draws 10 rfl) (by decide) ?_
  refine J_iushr (dk okX12_draws 11 rfl) ?_
  refine J_iload_n (dk okX12_draws 12 rfl) 1 rfl rfl ?_
  have s2 := t
  refine J_irem (dk okX12_draws 13 rfl) s2 ?_
  subst eμ1
  exact J_iret (dk okX12_draws 14 rfl) rfl k
/-- VotingFloorModel.enters(J)V -/
def e_X12_enters (p0 : Int64) (μ : Mm) : Mm := (let μ2 : Mm := (upJ μ 50 (Int32.toNatClampNeg (μ.1 49 1)) p0); (let μ3 : Mm := (upI μ2 49 1 ((μ2.1 49 1) + 1)); μ3))
def p_X12_enters (p0 : Int64)  (μ : Mm) : Prop := vp_in (μ.1 49 1) 24
set_option maxRecDepth 20000 in
set_option maxHeartbeats 4000000 in
theorem con_X12_enters {E : Ex} {Q : Option Value → Mm → Prop} {p0 : Int64} {μ : Mm} (t : p_X12_enters p0  μ) (k : Q none (e_X12_enters p0 μ)) : Con E 1 mX12_enters [rf E 49, .long p0] μ Q := by
  refine Con_J (by decide +kernel) (Nat.le_of_ble_eq_true rfl) (fun G => ?_)
  unfold e_X12_enters at k
  unfold p_X12_enters at t
  refine J_sub (ls' := [(0, rf E 49), (1, .long p0)]) [0, 1] rfl ?_
  refine J_aload_n (dk okX12_enters 0 rfl) 0 rfl rfl ?_
  refine J_getR (dk okX12_enters 1 rfl) kfX12_11 ds_49 rfl ?_
  refine J_aload_n (dk okX12_enters 2 rfl) 0 rfl rfl ?_
  refine J_getI (dk okX12_enters 3 rfl) kfX12_15 ds_49 rfl ?_
  refine J_lload_n (dk okX12_enters 4 rfl) 1 rfl rfl ?_
  have s1 := t
  refine J_last (dk okX12_enters 5 rfl) ds_50 s1 ?_
  refine J_nm (fun μ2 eμ2 => ?_)
  refine J_aload_n (dk okX12_enters 6 rfl) 0 rfl rfl ?_
  refine J_dup (dk okX12_enters 7 rfl) rfl ?_
  refine J_getI (dk okX12_enters 8 rfl) kfX12_15 ds_49 rfl ?_
  refine J_iconst (v := 1) (dk okX12_enters 9 rfl) (by decide) ?_
  refine J_iadd (dk okX12_enters 10 rfl) ?_
  refine J_put (dk okX12_enters 11 rfl) kpX12_15 ds_49 rfl rfl rfl ?_
  refine J_nm (fun μ3 eμ3 => ?_)
  subst eμ3 eμ2
  exact J_vret (dk okX12_enters 12 rfl) rfl k
/-- VotingFloorModel.faultOf(IIZ)I -/
def v_X12_faultOf (p0 : Int32) (p1 : Int32) (p2 : Int32) (μ : Mm) : Int32 := (if p0 ≤ p1 then (if (if p2 = 0 then 0 else (if (μ.1 49 10) = (μ.1 49 11) then 1 else 0 : Int32) : Int32) = 0 then ((-1) - (μ.1 49 10)) else 0 : Int32) else (if (if p2 = 0 then 0 else (if (μ.1 49 10) = (μ.1 49 11) then 1 else 0 : Int32) : Int32) = 0 then (if (μ.1 49 10) < p1 then ((-1) - (μ.1 49 10)) else ((-1) - p1)) else ((-1) - p1)))
set_option maxRecDepth 20000 in
set_option maxHeartbeats 4000000 in
theorem con_X12_faultOf {E : Ex} {Q : Option Value → Mm → Prop} {p0 : Int32} {p1 : Int32} {p2 : Int32} {μ : Mm} (k : Q (some (.int (v_X12_faultOf p0 p1 p2 μ))) μ) : Con E 1 mX12_faultOf [rf E 49, .int p0, .int p1, .int p2] μ Q := by
  refine Con_J (by decide +kernel) (Nat.le_of_ble_eq_true rfl) (fun G => ?_)
  unfold v_X12_faultOf at k
  refine J_sub (ls' := [(0, rf E 49), (1, .int p0), (2, .int p1), (3, .int p2)]) [0, 1, 2, 3] rfl ?_
  refine J_iload_n (dk okX12_faultOf 0 rfl) 3 rfl rfl ?_
  have K3 : J E G 1 mX12_faultOf Q 20 [(0, rf E 49), (1, .int p0), (2, .int p1)] [.int (if p2 = 0 then 0 else (if (μ.1 49 10) = (μ.1 49 11) then 1 else 0 : Int32) : Int32)] μ := by
    refine J_istore (ls' := [(4, _), (0, _), (1, _), (2, _)]) (dk okX12_faultOf 10 rfl) (by decide) rfl ?_
    refine J_iload_n (dk okX12_faultOf 11 rfl) 2 rfl rfl ?_
    refine J_iload_n (dk okX12_faultOf 12 rfl) 3 rfl rfl ?_
    refine J_icmp_le (tgt := 44) (dk okX12_faultOf 13 rfl) (by decide) (fun h4 => ?_) (fun h4 => ?_)
    · refine J_iload (dk okX12_faultOf 24 rfl) 0 rfl ?_
      have K6 : J E G 1 mX12_faultOf Q 59 [] [.int (if (if p2 = 0 then 0 else (if (μ.1 49 10) = (μ.1 49 11) then 1 else 0 : Int32) : Int32) = 0 then ((-1) - (μ.1 49 10)) else 0 : Int32)] μ := by
        (try simp only [if_pos h4] at k ⊢)
        exact J_iret (dk okX12_faultOf 32 rfl) rfl k
      refine J_if_eq (tgt := 53) (dk okX12_faultOf 25 rfl) (by decide) (fun h5 => ?_) (fun h5 => ?_)
      · refine J_iconst (v := (-1)) (dk okX12_faultOf 28 rfl) (by decide) ?_
        refine J_aload_n (dk okX12_faultOf 29 rfl) 1 rfl rfl ?_
        refine J_getI (dk okX12_faultOf 30 rfl) kfX12_144 ds_49 rfl ?_
        refine J_isub (dk okX12_faultOf 31 rfl) ?_
        refine J_sub (ls' := []) [] rfl ?_
        (try simp only [if_pos h5] at K6 ⊢); exact K6
      · refine J_iconst (v := 0) (dk okX12_faultOf 26 rfl) (by decide) ?_
        refine J_goto (tgt := 59) (dk okX12_faultOf 27 rfl) (by decide) ?_
        refine J_sub (ls' := []) [] rfl ?_
        (try simp only [if_neg h5] at K6 ⊢); exact K6
    · refine J_iload (dk okX12_faultOf 14 rfl) 0 rfl ?_
      refine J_if_ne (tgt := 40) (dk okX12_faultOf 15 rfl) (by decide) (fun h7 => ?_) (fun h7 => ?_)
      · refine J_iconst (v := (-1)) (dk okX12_faultOf 20 rfl) (by decide) ?_
        refine J_iload_n (dk okX12_faultOf 21 rfl) 3 rfl rfl ?_
        refine J_isub (dk okX12_faultOf 22 rfl) ?_
        (try simp only [if_neg h4, if_neg h7] at k ⊢)
        exact J_iret (dk okX12_faultOf 23 rfl) rfl k
      · refine J_aload_n (dk okX12_faultOf 16 rfl) 1 rfl rfl ?_
        refine J_getI (dk okX12_faultOf 17 rfl) kfX12_144 ds_49 rfl ?_
        refine J_iload_n (dk okX12_faultOf 18 rfl) 3 rfl rfl ?_
        refine J_icmp_lt (tgt := 44) (dk okX12_faultOf 19 rfl) (by decide) (fun h8 => ?_) (fun h8 => ?_)
        · refine J_iload (dk okX12_faultOf 24 rfl) 0 rfl ?_
          refine J_if_eq (tgt := 53) (dk okX12_faultOf 25 rfl) (by decide) (fun h10 => ?_) (fun h10 => absurd h7 h10)
          refine J_iconst (v := (-1)) (dk okX12_faultOf 28 rfl) (by decide) ?_
          refine J_aload_n (dk okX12_faultOf 29 rfl) 1 rfl rfl ?_
          refine J_getI (dk okX12_faultOf 30 rfl) kfX12_144 ds_49 rfl ?_
          refine J_isub (dk okX12_faultOf 31 rfl) ?_
          (try simp only [if_neg h4, if_pos h7, if_pos h8] at k ⊢)
          exact J_iret (dk okX12_faultOf 32 rfl) rfl k
        · refine J_iconst (v := (-1)) (dk okX12_faultOf 20 rfl) (by decide) ?_
          refine J_iload_n (dk okX12_faultOf 21 rfl) 3 rfl rfl ?_
          refine J_isub (dk okX12_faultOf 22 rfl) ?_
          (try simp only [if_neg h4, if_pos h7, if_neg h8] at k ⊢)
          exact J_iret (dk okX12_faultOf 23 rfl) rfl k
  refine J_if_eq (tgt := 19) (dk okX12_faultOf 1 rfl) (by decide) (fun h1 => ?_) (fun h1 => ?_)
  · refine J_iconst (v := 0) (dk okX12_faultOf 9 rfl) (by decide) ?_
    refine J_sub (ls' := [(0, _), (1, _), (2, _)]) [0, 1, 2] rfl ?_
    (try simp only [if_pos h1] at K3 ⊢); exact K3
  · refine J_aload_n (dk okX12_faultOf 2 rfl) 0 rfl rfl ?_
    refine J_getI (dk okX12_faultOf 3 rfl) kfX12_144 ds_49 rfl ?_
    refine J_aload_n (dk okX12_faultOf 4 rfl) 0 rfl rfl ?_
    refine J_getI (dk okX12_faultOf 5 rfl) kfX12_156 ds_49 rfl ?_
    refine J_icmp_ne (tgt := 19) (dk okX12_faultOf 6 rfl) (by decide) (fun h2 => ?_) (fun h2 => ?_)
    · refine J_iconst (v := 0) (dk okX12_faultOf 9 rfl) (by decide) ?_
      refine J_sub (ls' := [(0, _), (1, _), (2, _)]) [0, 1, 2] rfl ?_
      (try simp only [if_neg h1, if_neg h2] at K3 ⊢); exact K3
    · refine J_iconst (v := 1) (dk okX12_faultOf 7 rfl) (by decide) ?_
      refine J_goto (tgt := 20) (dk okX12_faultOf 8 rfl) (by decide) ?_
      refine J_sub (ls' := [(0, _), (1, _), (2, _)]) [0, 1, 2] rfl ?_
      (try simp only [if_neg h1, if_pos h2] at K3 ⊢); exact K3
/-- VotingFloorModel.flag(Z)I -/
def v_X12_flag (p0 : Int32) : Int32 := (if p0 = 0 then 0 else 1 : Int32)
set_option maxRecDepth 20000 in
set_option maxHeartbeats 4000000 in
theorem con_X12_flag {E : Ex} {Q : Option Value → Mm → Prop} {p0 : Int32} {μ : Mm} (k : Q (some (.int (v_X12_flag p0))) μ) : Con E 1 mX12_flag [.int p0] μ Q := by
  refine Con_J (by decide +kernel) (Nat.le_of_ble_eq_true rfl) (fun G => ?_)
  unfold v_X12_flag at k
  refine J_sub (ls' := [(0, .int p0)]) [0] rfl ?_
  refine J_iload_n (dk okX12_flag 0 rfl) 0 rfl rfl ?_
  have K2 : J E G 1 mX12_flag Q 9 [] [.int (if p0 = 0 then 0 else 1 : Int32)] μ := by
    exact J_iret (dk okX12_flag 5 rfl) rfl k
  refine J_if_eq (tgt := 8) (dk okX12_flag 1 rfl) (by decide) (fun h1 => ?_) (fun h1 => ?_)
  · refine J_iconst (v := 0) (dk okX12_flag 4 rfl) (by decide) ?_
    refine J_sub (ls' := []) [] rfl ?_
    (try simp only [if_pos h1] at K2 ⊢); exact K2
  · refine J_iconst (v := 1) (dk okX12_flag 2 rfl) (by decide) ?_
    refine J_goto (tgt := 9) (dk okX12_flag 3 rfl) (by decide) ?_
    refine J_sub (ls' := []) [] rfl ?_
    (try simp only [if_neg h1] at K2 ⊢); exact K2
/-- VotingFloorModel.forget()I -/
def v_X12_forget  (μ : Mm) : Int32 := (let μ1 : Mm := (upI μ 49 0 0); (μ1.1 49 31))
def e_X12_forget  (μ : Mm) : Mm := (let μ1 : Mm := (upI μ 49 0 0); (let μ2 : Mm := (upI μ1 49 31 0); μ2))
set_option maxRecDepth 20000 in
set_option maxHeartbeats 4000000 in
theorem con_X12_forget {E : Ex} {Q : Option Value → Mm → Prop} {μ : Mm} (k : Q (some (.int (v_X12_forget  μ))) (e_X12_forget  μ)) : Con E 1 mX12_forget [rf E 49] μ Q := by
  refine Con_J (by decide +kernel) (Nat.le_of_ble_eq_true rfl) (fun G => ?_)
  unfold v_X12_forget e_X12_forget at k
  refine J_sub (ls' := [(0, rf E 49)]) [0] rfl ?_
  refine J_aload_n (dk okX12_forget 0 rfl) 0 rfl rfl ?_
  refine J_iconst (v := 0) (dk okX12_forget 1 rfl) (by decide) ?_
  refine J_put (dk okX12_forget 2 rfl) kpX12_3 ds_49 rfl rfl rfl ?_
  refine J_nm (fun μ1 eμ1 => ?_)
  refine J_aload_n (dk okX12_forget 3 rfl) 0 rfl rfl ?_
  refine J_getI (dk okX12_forget 4 rfl) kfX12_391 ds_49 rfl ?_
  refine J_istore_n (ls' := [(1, _), (0, _)]) (dk okX12_forget 5 rfl) rfl (by decide) rfl ?_
  refine J_aload_n (dk okX12_forget 6 rfl) 1 rfl rfl ?_
  refine J_iconst (v := 0) (dk okX12_forget 7 rfl) (by decide) ?_
  refine J_put (dk okX12_forget 8 rfl) kpX12_391 ds_49 rfl rfl rfl ?_
  refine J_nm (fun μ2 eμ2 => ?_)
  refine J_iload_n (dk okX12_forget 9 rfl) 0 rfl rfl ?_
  subst eμ2 eμ1
  exact J_iret (dk okX12_forget 10 rfl) rfl k
/-- VotingFloorModel.gets(III)I -/
def v_X12_gets (p0 : Int32) (p1 : Int32) (p2 : Int32) : Int32 := (if p0 ≤ p1 then (if p0 = p1 then ((-p0) / 2) else 0 : Int32) else (p2 - ((p0 + p1) / 3)) : Int32)
set_option maxRecDepth 20000 in
set_option maxHeartbeats 4000000 in
theorem con_X12_gets {E : Ex} {Q : Option Value → Mm → Prop} {p0 : Int32} {p1 : Int32} {p2 : Int32} {μ : Mm} (k : Q (some (.int (v_X12_gets p0 p1 p2))) μ) : Con E 1 mX12_gets [.int p0, .int p1, .int p2] μ Q := by
  refine Con_J (by decide +kernel) (Nat.le_of_ble_eq_true rfl) (fun G => ?_)
  unfold v_X12_gets at k
  refine J_sub (ls' := [(0, .int p0), (1, .int p1), (2, .int p2)]) [0, 1, 2] rfl ?_
  refine J_iload_n (dk okX12_gets 0 rfl) 0 rfl rfl ?_
  refine J_iload_n (dk okX12_gets 1 rfl) 1 rfl rfl ?_
  have K3 : J E G 1 mX12_gets Q 28 [] [.int (if p0 ≤ p1 then (if p0 = p1 then ((-p0) / 2) else 0 : Int32) else (p2 - ((p0 + p1) / 3)) : Int32)] μ := by
    exact J_iret (dk okX12_gets 20 rfl) rfl k
  refine J_icmp_le (tgt := 15) (dk okX12_gets 2 rfl) (by decide) (fun h1 => ?_) (fun h1 => ?_)
  · refine J_iload_n (dk okX12_gets 11 rfl) 0 rfl rfl ?_
    refine J_iload_n (dk okX12_gets 12 rfl) 1 rfl rfl ?_
    refine J_icmp_ne (tgt := 27) (dk okX12_gets 13 rfl) (by decide) (fun h2 => ?_) (fun h2 => ?_)
    · refine J_iconst (v := 0) (dk okX12_gets 19 rfl) (by decide) ?_
      refine J_sub (ls' := []) [] rfl ?_
      (try simp only [if_pos h1, if_neg h2] at K3 ⊢); exact K3
    · refine J_iload_n (dk okX12_gets 14 rfl) 0 rfl rfl ?_
      refine J_ineg (dk okX12_gets 15 rfl) ?_
      refine J_iconst (v := 2) (dk okX12_gets 16 rfl) (by decide) ?_
      refine J_idiv (dk okX12_gets 17 rfl) (by decide) ?_
      refine J_goto (tgt := 28) (dk okX12_gets 18 rfl) (by decide) ?_
      refine J_sub (ls' := []) [] rfl ?_
      (try simp only [if_pos h1, if_pos h2] at K3 ⊢); exact K3
  · refine J_iload_n (dk okX12_gets 3 rfl) 2 rfl rfl ?_
    refine J_iload_n (dk okX12_gets 4 rfl) 0 rfl rfl ?_
    refine J_iload_n (dk okX12_gets 5 rfl) 1 rfl rfl ?_
    refine J_iadd (dk okX12_gets 6 rfl) ?_
    refine J_iconst (v := 3) (dk okX12_gets 7 rfl) (by decide) ?_
    refine J_idiv (dk okX12_gets 8 rfl) (by decide) ?_
    refine J_isub (dk okX12_gets 9 rfl) ?_
    refine J_goto (tgt := 28) (dk okX12_gets 10 rfl) (by decide) ?_
    refine J_sub (ls' := []) [] rfl ?_
    (try simp only [if_neg h1] at K3 ⊢); exact K3
/-- VotingFloorModel.has(II)Z -/
def v_X12_has (p0 : Int32) (p1 : Int32) : Int32 := (if ((p0 >>> (p1 &&& 31)) &&& 1) = 1 then 1 else 0 : Int32)
set_option maxRecDepth 20000 in
set_option maxHeartbeats 4000000 in
theorem con_X12_has {E : Ex} {Q : Option Value → Mm → Prop} {p0 : Int32} {p1 : Int32} {μ : Mm} (k : Q (some (.int (v_X12_has p0 p1))) μ) : Con E 1 mX12_has [.int p0, .int p1] μ Q := by
  refine Con_J (by decide +kernel) (Nat.le_of_ble_eq_true rfl) (fun G => ?_)
  unfold v_X12_has at k
  refine J_sub (ls' := [(0, .int p0), (1, .int p1)]) [0, 1] rfl ?_
  refine J_iload_n (dk okX12_has 0 rfl) 0 rfl rfl ?_
  refine J_iload_n (dk okX12_has 1 rfl) 1 rfl rfl ?_
  refine J_ishr (dk okX12_has 2 rfl) ?_
  refine J_iconst (v := 1) (dk okX12_has 3 rfl) (by decide) ?_
  refine J_iand (dk okX12_has 4 rfl) ?_
  refine J_iconst (v := 1) (dk okX12_has 5 rfl) (by decide) ?_
  have K2 : J E G 1 mX12_has Q 14 [] [.int (if ((p0 >>> (p1 &&& 31)) &&& 1) = 1 then 1 else 0 : Int32)] μ := by
    exact J_zret (dk okX12_has 10 rfl) rfl (by (repeat' split) <;> first | rfl | (simp only [*]; rfl)) k
  refine J_icmp_ne (tgt := 13) (dk okX12_has 6 rfl) (by decide) (fun h1 => ?_) (fun h1 => ?_)
  · refine J_iconst (v := 0) (dk okX12_has 9 rfl) (by decide) ?_
    refine J_sub (ls' := []) [] rfl ?_
    (try simp only [if_neg h1] at K2 ⊢); exact K2
  · refine J_iconst (v := 1) (dk okX12_has 7 rfl) (by decide) ?_
    refine J_goto (tgt := 14) (dk okX12_has 8 rfl) (by decide) ?_
    refine J_sub (ls' := []) [] rfl ?_
    (try simp only [if_pos h1] at K2 ⊢); exact K2
theorem nb_X12_has (p0 : Int32) (p1 : Int32) : narrow .boolean (.int (v_X12_has p0 p1)) = .int (v_X12_has p0 p1) := by
  unfold v_X12_has; (repeat' split) <;> rfl
/-- VotingFloorModel.highest(I)I -/
def v_X12_highest (p0 : Int32) : Int32 := (if p0 = 0 then 18 else (if p0 = 2 then 9 else 1 : Int32) : Int32)
set_option maxRecDepth 20000 in
set_option maxHeartbeats 4000000 in
theorem con_X12_highest {E : Ex} {Q : Option Value → Mm → Prop} {p0 : Int32} {μ : Mm} (k : Q (some (.int (v_X12_highest p0))) μ) : Con E 1 mX12_highest [.int p0] μ Q := by
  refine Con_J (by decide +kernel) (Nat.le_of_ble_eq_true rfl) (fun G => ?_)
  unfold v_X12_highest at k
  refine J_sub (ls' := [(0, .int p0)]) [0] rfl ?_
  refine J_iload_n (dk okX12_highest 0 rfl) 0 rfl rfl ?_
  have K3 : J E G 1 mX12_highest Q 20 [] [.int (if p0 = 0 then 18 else (if p0 = 2 then 9 else 1 : Int32) : Int32)] μ := by
    exact J_iret (dk okX12_highest 10 rfl) rfl k
  refine J_if_ne (tgt := 9) (dk okX12_highest 1 rfl) (by decide) (fun h1 => ?_) (fun h1 => ?_)
  · refine J_iload_n (dk okX12_highest 4 rfl) 0 rfl rfl ?_
    refine J_iconst (v := 2) (dk okX12_highest 5 rfl) (by decide) ?_
    refine J_icmp_ne (tgt := 19) (dk okX12_highest 6 rfl) (by decide) (fun h2 => ?_) (fun h2 => ?_)
    · refine J_iconst (v := 1) (dk okX12_highest 9 rfl) (by decide) ?_
      refine J_sub (ls' := []) [] rfl ?_
      (try simp only [if_neg h1, if_neg h2] at K3 ⊢); exact K3
    · refine J_bipush (v := 9) (dk okX12_highest 7 rfl) (by decide) ?_
      refine J_goto (tgt := 20) (dk okX12_highest 8 rfl) (by decide) ?_
      refine J_sub (ls' := []) [] rfl ?_
      (try simp only [if_neg h1, if_pos h2] at K3 ⊢); exact K3
  · refine J_bipush (v := 18) (dk okX12_highest 2 rfl) (by decide) ?_
    refine J_goto (tgt := 20) (dk okX12_highest 3 rfl) (by decide) ?_
    refine J_sub (ls' := []) [] rfl ?_
    (try simp only [if_pos h1] at K3 ⊢); exact K3
/-- VotingFloorModel.in(JJJ)Z -/
def v_X12_in (p0 : Int64) (p1 : Int64) (p2 : Int64) : Int32 := (if (lg_cmp p0 p1) < 0 then 0 else (if 0 < (lg_cmp p0 p2) then 0 else 1 : Int32) : Int32)
set_option maxRecDepth 20000 in
set_option maxHeartbeats 4000000 in
theorem con_X12_in {E : Ex} {Q : Option Value → Mm → Prop} {p0 : Int64} {p1 : Int64} {p2 : Int64} {μ : Mm} (k : Q (some (.int (v_X12_in p0 p1 p2))) μ) : Con E 1 mX12_in [.long p0, .long p1, .long p2] μ Q := by
  refine Con_J (by decide +kernel) (Nat.le_of_ble_eq_true rfl) (fun G => ?_)
  unfold v_X12_in at k
  refine J_sub (ls' := [(0, .long p0), (2, .long p1), (4, .long p2)]) [0, 1, 2] rfl ?_
  refine J_lload_n (dk okX12_in 0 rfl) 0 rfl rfl ?_
  refine J_lload_n (dk okX12_in 1 rfl) 1 rfl rfl ?_
  refine J_lcmp (dk okX12_in 2 rfl) ?_
  have K3 : J E G 1 mX12_in Q 18 [] [.int (if (lg_cmp p0 p1) < 0 then 0 else (if 0 < (lg_cmp p0 p2) then 0 else 1 : Int32) : Int32)] μ := by
    exact J_zret (dk okX12_in 11 rfl) rfl (by (repeat' split) <;> first | rfl | (simp only [*]; rfl)) k
  refine J_if_lt (tgt := 17) (dk okX12_in 3 rfl) (by decide) (fun h1 => ?_) (fun h1 => ?_)
  · refine J_iconst (v := 0) (dk okX12_in 10 rfl) (by decide) ?_
    refine J_sub (ls' := []) [] rfl ?_
    (try simp only [if_pos h1] at K3 ⊢); exact K3
  · refine J_lload_n (dk okX12_in 4 rfl) 0 rfl rfl ?_
    refine J_lload (dk okX12_in 5 rfl) 2 rfl ?_
    refine J_lcmp (dk okX12_in 6 rfl) ?_
    refine J_if_gt (tgt := 17) (dk okX12_in 7 rfl) (by decide) (fun h2 => ?_) (fun h2 => ?_)
    · refine J_iconst (v := 0) (dk okX12_in 10 rfl) (by decide) ?_
      refine J_sub (ls' := []) [] rfl ?_
      (try simp only [if_neg h1, if_pos h2] at K3 ⊢); exact K3
    · refine J_iconst (v := 1) (dk okX12_in 8 rfl) (by decide) ?_
      refine J_goto (tgt := 18) (dk okX12_in 9 rfl) (by decide) ?_
      refine J_sub (ls' := []) [] rfl ?_
      (try simp only [if_neg h1, if_neg h2] at K3 ⊢); exact K3
theorem nb_X12_in (p0 : Int64) (p1 : Int64) (p2 : Int64) : narrow .boolean (.int (v_X12_in p0 p1 p2)) = .int (v_X12_in p0 p1 p2) := by
  unfold v_X12_in; (repeat' split) <;> rfl
/-- VotingFloorModel.load([II)I -/
def v_X12_load (p0 : Nat) (p1 : Int32) (μ : Mm) : Int32 := ((μ.1 51 (Int32.toNatClampNeg p1)) + (μ.1 p0 (Int32.toNatClampNeg (14 + p1))))
def p_X12_load (p0 : Nat) (p1 : Int32)  : Prop := (vp_in p1 7) ∧ vp_in (14 + p1) 24
set_option maxRecDepth 20000 in
set_option maxHeartbeats 4000000 in
theorem con_X12_load {E : Ex} {Q : Option Value → Mm → Prop} {p0 : Nat} {p1 : Int32} {μ : Mm} (hp0 : dscL[p0]? = some (.inr (.inl (1, 24)))) (t : p_X12_load p0 p1 ) (k : Q (some (.int (v_X12_load p0 p1 μ))) μ) : Con E 1 mX12_load [rf E 49, rf E p0, .int p1] μ Q := by
  refine Con_J (by decide +kernel) (Nat.le_of_ble_eq_true rfl) (fun G => ?_)
  unfold v_X12_load at k
  unfold p_X12_load at t
  refine J_sub (ls' := [(0, rf E 49), (1, rf E p0), (2, .int p1)]) [0, 1, 2] rfl ?_
  refine J_aload_n (dk okX12_load 0 rfl) 0 rfl rfl ?_
  refine J_getR (dk okX12_load 1 rfl) kfX12_28 ds_49 rfl ?_
  refine J_iload_n (dk okX12_load 2 rfl) 2 rfl rfl ?_
  obtain ⟨s1, t⟩ := t
  refine J_iald (dk okX12_load 3 rfl) ds_51 s1 ?_
  refine J_aload_n (dk okX12_load 4 rfl) 1 rfl rfl ?_
  refine J_bipush (v := 14) (dk okX12_load 5 rfl) (by decide) ?_
  refine J_iload_n (dk okX12_load 6 rfl) 2 rfl rfl ?_
  refine J_iadd (dk okX12_load 7 rfl) ?_
  have s2 := t
  refine J_iald (dk okX12_load 8 rfl) hp0 s2 ?_
  refine J_iadd (dk okX12_load 9 rfl) ?_
  exact J_iret (dk okX12_load 10 rfl) rfl k
/-- VotingFloorModel.page(II)I -/
def v_X12_page (p0 : Int32) (p1 : Int32) : Int32 := ((21 * p0) + p1)
set_option maxRecDepth 20000 in
set_option maxHeartbeats 4000000 in
theorem con_X12_page {E : Ex} {Q : Option Value → Mm → Prop} {p0 : Int32} {p1 : Int32} {μ : Mm} (k : Q (some (.int (v_X12_page p0 p1))) μ) : Con E 1 mX12_page [.int p0, .int p1] μ Q := by
  refine Con_J (by decide +kernel) (Nat.le_of_ble_eq_true rfl) (fun G => ?_)
  unfold v_X12_page at k
  refine J_sub (ls' := [(0, .int p0), (1, .int p1)]) [0, 1] rfl ?_
  refine J_bipush (v := 21) (dk okX12_page 0 rfl) (by decide) ?_
  refine J_iload_n (dk okX12_page 1 rfl) 0 rfl rfl ?_
  refine J_imul (dk okX12_page 2 rfl) ?_
  refine J_iload_n (dk okX12_page 3 rfl) 1 rfl rfl ?_
  refine J_iadd (dk okX12_page 4 rfl) ?_
  exact J_iret (dk okX12_page 5 rfl) rfl k
/-- VotingFloorModel.refuse()I -/
def v_X12_refuse  : Int32 := 0
def e_X12_refuse  (μ : Mm) : Mm := (let μ1 : Mm := (upI μ 49 0 1); μ1)
set_option maxRecDepth 20000 in
set_option maxHeartbeats 4000000 in
theorem con_X12_refuse {E : Ex} {Q : Option Value → Mm → Prop} {μ : Mm} (k : Q (some (.int (v_X12_refuse ))) (e_X12_refuse  μ)) : Con E 1 mX12_refuse [rf E 49] μ Q := by
  refine Con_J (by decide +kernel) (Nat.le_of_ble_eq_true rfl) (fun G => ?_)
  unfold v_X12_refuse e_X12_refuse at k
  refine J_sub (ls' := [(0, rf E 49)]) [0] rfl ?_
  refine J_aload_n (dk okX12_refuse 0 rfl) 0 rfl rfl ?_
  refine J_iconst (v := 1) (dk okX12_refuse 1 rfl) (by decide) ?_
  refine J_put (dk okX12_refuse 2 rfl) kpX12_3 ds_49 rfl rfl rfl ?_
  refine J_nm (fun μ1 eμ1 => ?_)
  refine J_iconst (v := 0) (dk okX12_refuse 3 rfl) (by decide) ?_
  subst eμ1
  exact J_iret (dk okX12_refuse 4 rfl) rfl k
/-- VotingFloorModel.slot(II)I -/
def v_X12_slot (p0 : Int32) (p1 : Int32) : Int32 := ((127 * p0) + p1)
set_option maxRecDepth 20000 in
set_option maxHeartbeats 4000000 in
theorem con_X12_slot {E : Ex} {Q : Option Value → Mm → Prop} {p0 : Int32} {p1 : Int32} {μ : Mm} (k : Q (some (.int (v_X12_slot p0 p1))) μ) : Con E 1 mX12_slot [.int p0, .int p1] μ Q := by
  refine Con_J (by decide +kernel) (Nat.le_of_ble_eq_true rfl) (fun G => ?_)
  unfold v_X12_slot at k
  refine J_sub (ls' := [(0, .int p0), (1, .int p1)]) [0, 1] rfl ?_
  refine J_bipush (v := 127) (dk okX12_slot 0 rfl) (by decide) ?_
  refine J_iload_n (dk okX12_slot 1 rfl) 0 rfl rfl ?_
  refine J_imul (dk okX12_slot 2 rfl) ?_
  refine J_iload_n (dk okX12_slot 3 rfl) 1 rfl rfl ?_
  refine J_iadd (dk okX12_slot 4 rfl) ?_
  exact J_iret (dk okX12_slot 5 rfl) rfl k
/-- VotingFloorModel.thrown()I -/
def v_X12_thrown  (μ : Mm) : Int32 := (μ.1 49 0)
set_option maxRecDepth 20000 in
set_option maxHeartbeats 4000000 in
theorem con_X12_thrown {E : Ex} {Q : Option Value → Mm → Prop} {μ : Mm} (k : Q (some (.int (v_X12_thrown  μ))) μ) : Con E 1 mX12_thrown [rf E 49] μ Q := by
  refine Con_J (by decide +kernel) (Nat.le_of_ble_eq_true rfl) (fun G => ?_)
  unfold v_X12_thrown at k
  refine J_sub (ls' := [(0, rf E 49)]) [0] rfl ?_
  refine J_aload_n (dk okX12_thrown 0 rfl) 0 rfl rfl ?_
  refine J_getI (dk okX12_thrown 1 rfl) kfX12_3 ds_49 rfl ?_
  exact J_iret (dk okX12_thrown 2 rfl) rfl k
/-- VotingFloor$Floor.has(I)Z -/
def v_X1_has (b : Nat) (p0 : Int32) (μ : Mm) : Int32 := (if p0 < 0 then 0 else (if (μ.1 b 0) ≤ p0 then 0 else 1 : Int32) : Int32)
set_option maxRecDepth 20000 in
set_option maxHeartbeats 4000000 in
theorem con_X1_has {E : Ex} {Q : Option Value → Mm → Prop} {b : Nat} {p0 : Int32} {μ : Mm} (hb : FloorAt b) (k : Q (some (.int (v_X1_has b p0 μ))) μ) : Con E 1 mX1_has [rf E b, .int p0] μ Q := by
  refine Con_J (by decide +kernel) (Nat.le_of_ble_eq_true rfl) (fun G => ?_)
  unfold v_X1_has at k
  refine J_sub (ls' := [(0, rf E b), (1, .int p0)]) [0, 1] rfl ?_
  refine J_iload_n (dk okX1_has 0 rfl) 1 rfl rfl ?_
  have K3 : J E G 1 mX1_has Q 17 [] [.int (if p0 < 0 then 0 else (if (μ.1 b 0) ≤ p0 then 0 else 1 : Int32) : Int32)] μ := by
    exact J_zret (dk okX1_has 9 rfl) rfl (by (repeat' split) <;> first | rfl | (simp only [*]; rfl)) k
  refine J_if_lt (tgt := 16) (dk okX1_has 1 rfl) (by decide) (fun h1 => ?_) (fun h1 => ?_)
  · refine J_iconst (v := 0) (dk okX1_has 8 rfl) (by decide) ?_
    refine J_sub (ls' := []) [] rfl ?_
    (try simp only [if_pos h1] at K3 ⊢); exact K3
  · refine J_iload_n (dk okX1_has 2 rfl) 1 rfl rfl ?_
    refine J_aload_n (dk okX1_has 3 rfl) 0 rfl rfl ?_
    refine J_getI (dk okX1_has 4 rfl) kfX1_9 hb.1 rfl ?_
    refine J_icmp_ge (tgt := 16) (dk okX1_has 5 rfl) (by decide) (fun h2 => ?_) (fun h2 => ?_)
    · refine J_iconst (v := 0) (dk okX1_has 8 rfl) (by decide) ?_
      refine J_sub (ls' := []) [] rfl ?_
      (try simp only [if_neg h1, if_pos h2] at K3 ⊢); exact K3
    · refine J_iconst (v := 1) (dk okX1_has 6 rfl) (by decide) ?_
      refine J_goto (tgt := 17) (dk okX1_has 7 rfl) (by decide) ?_
      refine J_sub (ls' := []) [] rfl ?_
      (try simp only [if_neg h1, if_neg h2] at K3 ⊢); exact K3
theorem nb_X1_has (b : Nat) (p0 : Int32) (μ : Mm) : narrow .boolean (.int (v_X1_has b p0 μ)) = .int (v_X1_has b p0 μ) := by
  unfold v_X1_has; (repeat' split) <;> rfl
/-- VotingFloor$Floor.isOff(I)Z -/
def v_X1_isOff (b : Nat) (p0 : Int32) (μ : Mm) : Int32 := (if (((μ.1 b 5) >>> (p0 &&& 31)) &&& 1) = 0 then 0 else 1 : Int32)
set_option maxRecDepth 20000 in
set_option maxHeartbeats 4000000 in
theorem con_X1_isOff {E : Ex} {Q : Option Value → Mm → Prop} {b : Nat} {p0 : Int32} {μ : Mm} (hb : FloorAt b) (k : Q (some (.int (v_X1_isOff b p0 μ))) μ) : Con E 1 mX1_isOff [rf E b, .int p0] μ Q := by
  refine Con_J (by decide +kernel) (Nat.le_of_ble_eq_true rfl) (fun G => ?_)
  unfold v_X1_isOff at k
  refine J_sub (ls' := [(0, rf E b), (1, .int p0)]) [0, 1] rfl ?_
  refine J_aload_n (dk okX1_isOff 0 rfl) 0 rfl rfl ?_
  refine J_getI (dk okX1_isOff 1 rfl) kfX1_28 hb.1 rfl ?_
  refine J_iload_n (dk okX1_isOff 2 rfl) 1 rfl rfl ?_
  refine J_ishr (dk okX1_isOff 3 rfl) ?_
  refine J_iconst (v := 1) (dk okX1_isOff 4 rfl) (by decide) ?_
  refine J_iand (dk okX1_isOff 5 rfl) ?_
  have K2 : J E G 1 mX1_isOff Q 16 [] [.int (if (((μ.1 b 5) >>> (p0 &&& 31)) &&& 1) = 0 then 0 else 1 : Int32)] μ := by
    exact J_zret (dk okX1_isOff 10 rfl) rfl (by (repeat' split) <;> first | rfl | (simp only [*]; rfl)) k
  refine J_if_eq (tgt := 15) (dk okX1_isOff 6 rfl) (by decide) (fun h1 => ?_) (fun h1 => ?_)
  · refine J_iconst (v := 0) (dk okX1_isOff 9 rfl) (by decide) ?_
    refine J_sub (ls' := []) [] rfl ?_
    (try simp only [if_pos h1] at K2 ⊢); exact K2
  · refine J_iconst (v := 1) (dk okX1_isOff 7 rfl) (by decide) ?_
    refine J_goto (tgt := 16) (dk okX1_isOff 8 rfl) (by decide) ?_
    refine J_sub (ls' := []) [] rfl ?_
    (try simp only [if_neg h1] at K2 ⊢); exact K2
theorem nb_X1_isOff (b : Nat) (p0 : Int32) (μ : Mm) : narrow .boolean (.int (v_X1_isOff b p0 μ)) = .int (v_X1_isOff b p0 μ) := by
  unfold v_X1_isOff; (repeat' split) <;> rfl
/-- VotingFloor$Floor.join(II)V -/
def e_X1_join (b : Nat) (p0 : Int32) (p1 : Int32) (μ : Mm) : Mm := (let μ12 : Mm := (if 7 ≤ (μ.1 b 0) then μ else ((upI ((upI ((upI ((upI ((upI ((upI μ (b + 1) (Int32.toNatClampNeg (μ.1 b 0)) p0)) (b + 2) (Int32.toNatClampNeg (((upI μ (b + 1) (Int32.toNatClampNeg (μ.1 b 0)) p0)).1 b 0)) p1)) (b + 3) (Int32.toNatClampNeg (((upI ((upI μ (b + 1) (Int32.toNatClampNeg (μ.1 b 0)) p0)) (b + 2) (Int32.toNatClampNeg (((upI μ (b + 1) (Int32.toNatClampNeg (μ.1 b 0)) p0)).1 b 0)) p1)).1 b 0)) 0)) (b + 4) (Int32.toNatClampNeg (((upI ((upI ((upI μ (b + 1) (Int32.toNatClampNeg (μ.1 b 0)) p0)) (b + 2) (Int32.toNatClampNeg (((upI μ (b + 1) (Int32.toNatClampNeg (μ.1 b 0)) p0)).1 b 0)) p1)) (b + 3) (Int32.toNatClampNeg (((upI ((upI μ (b + 1) (Int32.toNatClampNeg (μ.1 b 0)) p0)) (b + 2) (Int32.toNatClampNeg (((upI μ (b + 1) (Int32.toNatClampNeg (μ.1 b 0)) p0)).1 b 0)) p1)).1 b 0)) 0)).1 b 0)) 0)) b 5 ((((upI ((upI ((upI ((upI μ (b + 1) (Int32.toNatClampNeg (μ.1 b 0)) p0)) (b + 2) (Int32.toNatClampNeg (((upI μ (b + 1) (Int32.toNatClampNeg (μ.1 b 0)) p0)).1 b 0)) p1)) (b + 3) (Int32.toNatClampNeg (((upI ((upI μ (b + 1) (Int32.toNatClampNeg (μ.1 b 0)) p0)) (b + 2) (Int32.toNatClampNeg (((upI μ (b + 1) (Int32.toNatClampNeg (μ.1 b 0)) p0)).1 b 0)) p1)).1 b 0)) 0)) (b + 4) (Int32.toNatClampNeg (((upI ((upI ((upI μ (b + 1) (Int32.toNatClampNeg (μ.1 b 0)) p0)) (b + 2) (Int32.toNatClampNeg (((upI μ (b + 1) (Int32.toNatClampNeg (μ.1 b 0)) p0)).1 b 0)) p1)) (b + 3) (Int32.toNatClampNeg (((upI ((upI μ (b + 1) (Int32.toNatClampNeg (μ.1 b 0)) p0)) (b + 2) (Int32.toNatClampNeg (((upI μ (b + 1) (Int32.toNatClampNeg (μ.1 b 0)) p0)).1 b 0)) p1)).1 b 0)) 0)).1 b 0)) 0)).1 b 5) &&& ((1 <<< ((((upI ((upI ((upI ((upI μ (b + 1) (Int32.toNatClampNeg (μ.1 b 0)) p0)) (b + 2) (Int32.toNatClampNeg (((upI μ (b + 1) (Int32.toNatClampNeg (μ.1 b 0)) p0)).1 b 0)) p1)) (b + 3) (Int32.toNatClampNeg (((upI ((upI μ (b + 1) (Int32.toNatClampNeg (μ.1 b 0)) p0)) (b + 2) (Int32.toNatClampNeg (((upI μ (b + 1) (Int32.toNatClampNeg (μ.1 b 0)) p0)).1 b 0)) p1)).1 b 0)) 0)) (b + 4) (Int32.toNatClampNeg (((upI ((upI ((upI μ (b + 1) (Int32.toNatClampNeg (μ.1 b 0)) p0)) (b + 2) (Int32.toNatClampNeg (((upI μ (b + 1) (Int32.toNatClampNeg (μ.1 b 0)) p0)).1 b 0)) p1)) (b + 3) (Int32.toNatClampNeg (((upI ((upI μ (b + 1) (Int32.toNatClampNeg (μ.1 b 0)) p0)) (b + 2) (Int32.toNatClampNeg (((upI μ (b + 1) (Int32.toNatClampNeg (μ.1 b 0)) p0)).1 b 0)) p1)).1 b 0)) 0)).1 b 0)) 0)).1 b 0) &&& 31)) ^^^ (-1))))) b 0 ((((upI ((upI ((upI ((upI ((upI μ (b + 1) (Int32.toNatClampNeg (μ.1 b 0)) p0)) (b + 2) (Int32.toNatClampNeg (((upI μ (b + 1) (Int32.toNatClampNeg (μ.1 b 0)) p0)).1 b 0)) p1)) (b + 3) (Int32.toNatClampNeg (((upI ((upI μ (b + 1) (Int32.toNatClampNeg (μ.1 b 0)) p0)) (b + 2) (Int32.toNatClampNeg (((upI μ (b + 1) (Int32.toNatClampNeg (μ.1 b 0)) p0)).1 b 0)) p1)).1 b 0)) 0)) (b + 4) (Int32.toNatClampNeg (((upI ((upI ((upI μ (b + 1) (Int32.toNatClampNeg (μ.1 b 0)) p0)) (b + 2) (Int32.toNatClampNeg (((upI μ (b + 1) (Int32.toNatClampNeg (μ.1 b 0)) p0)).1 b 0)) p1)) (b + 3) (Int32.toNatClampNeg (((upI ((upI μ (b + 1) (Int32.toNatClampNeg (μ.1 b 0)) p0)) (b + 2) (Int32.toNatClampNeg (((upI μ (b + 1) (Int32.toNatClampNeg (μ.1 b 0)) p0)).1 b 0)) p1)).1 b 0)) 0)).1 b 0)) 0)) b 5 ((((upI ((upI ((upI ((upI μ (b + 1) (Int32.toNatClampNeg (μ.1 b 0)) p0)) (b + 2) (Int32.toNatClampNeg (((upI μ (b + 1) (Int32.toNatClampNeg (μ.1 b 0)) p0)).1 b 0)) p1)) (b + 3) (Int32.toNatClampNeg (((upI ((upI μ (b + 1) (Int32.toNatClampNeg (μ.1 b 0)) p0)) (b + 2) (Int32.toNatClampNeg (((upI μ (b + 1) (Int32.toNatClampNeg (μ.1 b 0)) p0)).1 b 0)) p1)).1 b 0)) 0)) (b + 4) (Int32.toNatClampNeg (((upI ((upI ((upI μ (b + 1) (Int32.toNatClampNeg (μ.1 b 0)) p0)) (b + 2) (Int32.toNatClampNeg (((upI μ (b + 1) (Int32.toNatClampNeg (μ.1 b 0)) p0)).1 b 0)) p1)) (b + 3) (Int32.toNatClampNeg (((upI ((upI μ (b + 1) (Int32.toNatClampNeg (μ.1 b 0)) p0)) (b + 2) (Int32.toNatClampNeg (((upI μ (b + 1) (Int32.toNatClampNeg (μ.1 b 0)) p0)).1 b 0)) p1)).1 b 0)) 0)).1 b 0)) 0)).1 b 5) &&& ((1 <<< ((((upI ((upI ((upI ((upI μ (b + 1) (Int32.toNatClampNeg (μ.1 b 0)) p0)) (b + 2) (Int32.toNatClampNeg (((upI μ (b + 1) (Int32.toNatClampNeg (μ.1 b 0)) p0)).1 b 0)) p1)) (b + 3) (Int32.toNatClampNeg (((upI ((upI μ (b + 1) (Int32.toNatClampNeg (μ.1 b 0)) p0)) (b + 2) (Int32.toNatClampNeg (((upI μ (b + 1) (Int32.toNatClampNeg (μ.1 b 0)) p0)).1 b 0)) p1)).1 b 0)) 0)) (b + 4) (Int32.toNatClampNeg (((upI ((upI ((upI μ (b + 1) (Int32.toNatClampNeg (μ.1 b 0)) p0)) (b + 2) (Int32.toNatClampNeg (((upI μ (b + 1) (Int32.toNatClampNeg (μ.1 b 0)) p0)).1 b 0)) p1)) (b + 3) (Int32.toNatClampNeg (((upI ((upI μ (b + 1) (Int32.toNatClampNeg (μ.1 b 0)) p0)) (b + 2) (Int32.toNatClampNeg (((upI μ (b + 1) (Int32.toNatClampNeg (μ.1 b 0)) p0)).1 b 0)) p1)).1 b 0)) 0)).1 b 0)) 0)).1 b 0) &&& 31)) ^^^ (-1))))).1 b 0) + 1))) : Mm); μ12)
def p_X1_join (b : Nat) (p0 : Int32) (p1 : Int32)  (μ : Mm) : Prop := (¬ (7 ≤ (μ.1 b 0)) → (vp_in (μ.1 b 0) 7) ∧ (∀ μ3 : Mm, μ3 = (upI μ (b + 1) (Int32.toNatClampNeg (μ.1 b 0)) p0) → (vp_in (μ3.1 b 0) 7) ∧ (∀ μ5 : Mm, μ5 = (upI μ3 (b + 2) (Int32.toNatClampNeg (μ3.1 b 0)) p1) → (vp_in (μ5.1 b 0) 7) ∧ (∀ μ7 : Mm, μ7 = (upI μ5 (b + 3) (Int32.toNatClampNeg (μ5.1 b 0)) 0) → vp_in (μ7.1 b 0) 7))))
set_option maxRecDepth 20000 in
set_option maxHeartbeats 4000000 in
theorem con_X1_join {E : Ex} {Q : Option Value → Mm → Prop} {b : Nat} {p0 : Int32} {p1 : Int32} {μ : Mm} (hb : FloorAt b) (t : p_X1_join b p0 p1  μ) (k : Q none (e_X1_join b p0 p1 μ)) : Con E 1 mX1_join [rf E b, .int p0, .int p1] μ Q := by
  refine Con_J (by decide +kernel) (Nat.le_of_ble_eq_true rfl) (fun G => ?_)
  unfold e_X1_join at k
  unfold p_X1_join at t
  refine J_sub (ls' := [(0, rf E b), (1, .int p0), (2, .int p1)]) [0, 1, 2] rfl ?_
  refine J_aload_n (dk okX1_join 0 rfl) 0 rfl rfl ?_
  refine J_getI (dk okX1_join 1 rfl) kfX1_9 hb.1 rfl ?_
  refine J_bipush (v := 7) (dk okX1_join 2 rfl) (by decide) ?_
  have K13 : J E G 1 mX1_join Q 76 [] [] (if 7 ≤ (μ.1 b 0) then μ else ((upI ((upI ((upI ((upI ((upI ((upI μ (b + 1) (Int32.toNatClampNeg (μ.1 b 0)) p0)) (b + 2) (Int32.toNatClampNeg (((upI μ (b + 1) (Int32.toNatClampNeg (μ.1 b 0)) p0)).1 b 0)) p1)) (b + 3) (Int32.toNatClampNeg (((upI ((upI μ (b + 1) (Int32.toNatClampNeg (μ.1 b 0)) p0)) (b + 2) (Int32.toNatClampNeg (((upI μ (b + 1) (Int32.toNatClampNeg (μ.1 b 0)) p0)).1 b 0)) p1)).1 b 0)) 0)) (b + 4) (Int32.toNatClampNeg (((upI ((upI ((upI μ (b + 1) (Int32.toNatClampNeg (μ.1 b 0)) p0)) (b + 2) (Int32.toNatClampNeg (((upI μ (b + 1) (Int32.toNatClampNeg (μ.1 b 0)) p0)).1 b 0)) p1)) (b + 3) (Int32.toNatClampNeg (((upI ((upI μ (b + 1) (Int32.toNatClampNeg (μ.1 b 0)) p0)) (b + 2) (Int32.toNatClampNeg (((upI μ (b + 1) (Int32.toNatClampNeg (μ.1 b 0)) p0)).1 b 0)) p1)).1 b 0)) 0)).1 b 0)) 0)) b 5 ((((upI ((upI ((upI ((upI μ (b + 1) (Int32.toNatClampNeg (μ.1 b 0)) p0)) (b + 2) (Int32.toNatClampNeg (((upI μ (b + 1) (Int32.toNatClampNeg (μ.1 b 0)) p0)).1 b 0)) p1)) (b + 3) (Int32.toNatClampNeg (((upI ((upI μ (b + 1) (Int32.toNatClampNeg (μ.1 b 0)) p0)) (b + 2) (Int32.toNatClampNeg (((upI μ (b + 1) (Int32.toNatClampNeg (μ.1 b 0)) p0)).1 b 0)) p1)).1 b 0)) 0)) (b + 4) (Int32.toNatClampNeg (((upI ((upI ((upI μ (b + 1) (Int32.toNatClampNeg (μ.1 b 0)) p0)) (b + 2) (Int32.toNatClampNeg (((upI μ (b + 1) (Int32.toNatClampNeg (μ.1 b 0)) p0)).1 b 0)) p1)) (b + 3) (Int32.toNatClampNeg (((upI ((upI μ (b + 1) (Int32.toNatClampNeg (μ.1 b 0)) p0)) (b + 2) (Int32.toNatClampNeg (((upI μ (b + 1) (Int32.toNatClampNeg (μ.1 b 0)) p0)).1 b 0)) p1)).1 b 0)) 0)).1 b 0)) 0)).1 b 5) &&& ((1 <<< ((((upI ((upI ((upI ((upI μ (b + 1) (Int32.toNatClampNeg (μ.1 b 0)) p0)) (b + 2) (Int32.toNatClampNeg (((upI μ (b + 1) (Int32.toNatClampNeg (μ.1 b 0)) p0)).1 b 0)) p1)) (b + 3) (Int32.toNatClampNeg (((upI ((upI μ (b + 1) (Int32.toNatClampNeg (μ.1 b 0)) p0)) (b + 2) (Int32.toNatClampNeg (((upI μ (b + 1) (Int32.toNatClampNeg (μ.1 b 0)) p0)).1 b 0)) p1)).1 b 0)) 0)) (b + 4) (Int32.toNatClampNeg (((upI ((upI ((upI μ (b + 1) (Int32.toNatClampNeg (μ.1 b 0)) p0)) (b + 2) (Int32.toNatClampNeg (((upI μ (b + 1) (Int32.toNatClampNeg (μ.1 b 0)) p0)).1 b 0)) p1)) (b + 3) (Int32.toNatClampNeg (((upI ((upI μ (b + 1) (Int32.toNatClampNeg (μ.1 b 0)) p0)) (b + 2) (Int32.toNatClampNeg (((upI μ (b + 1) (Int32.toNatClampNeg (μ.1 b 0)) p0)).1 b 0)) p1)).1 b 0)) 0)).1 b 0)) 0)).1 b 0) &&& 31)) ^^^ (-1))))) b 0 ((((upI ((upI ((upI ((upI ((upI μ (b + 1) (Int32.toNatClampNeg (μ.1 b 0)) p0)) (b + 2) (Int32.toNatClampNeg (((upI μ (b + 1) (Int32.toNatClampNeg (μ.1 b 0)) p0)).1 b 0)) p1)) (b + 3) (Int32.toNatClampNeg (((upI ((upI μ (b + 1) (Int32.toNatClampNeg (μ.1 b 0)) p0)) (b + 2) (Int32.toNatClampNeg (((upI μ (b + 1) (Int32.toNatClampNeg (μ.1 b 0)) p0)).1 b 0)) p1)).1 b 0)) 0)) (b + 4) (Int32.toNatClampNeg (((upI ((upI ((upI μ (b + 1) (Int32.toNatClampNeg (μ.1 b 0)) p0)) (b + 2) (Int32.toNatClampNeg (((upI μ (b + 1) (Int32.toNatClampNeg (μ.1 b 0)) p0)).1 b 0)) p1)) (b + 3) (Int32.toNatClampNeg (((upI ((upI μ (b + 1) (Int32.toNatClampNeg (μ.1 b 0)) p0)) (b + 2) (Int32.toNatClampNeg (((upI μ (b + 1) (Int32.toNatClampNeg (μ.1 b 0)) p0)).1 b 0)) p1)).1 b 0)) 0)).1 b 0)) 0)) b 5 ((((upI ((upI ((upI ((upI μ (b + 1) (Int32.toNatClampNeg (μ.1 b 0)) p0)) (b + 2) (Int32.toNatClampNeg (((upI μ (b + 1) (Int32.toNatClampNeg (μ.1 b 0)) p0)).1 b 0)) p1)) (b + 3) (Int32.toNatClampNeg (((upI ((upI μ (b + 1) (Int32.toNatClampNeg (μ.1 b 0)) p0)) (b + 2) (Int32.toNatClampNeg (((upI μ (b + 1) (Int32.toNatClampNeg (μ.1 b 0)) p0)).1 b 0)) p1)).1 b 0)) 0)) (b + 4) (Int32.toNatClampNeg (((upI ((upI ((upI μ (b + 1) (Int32.toNatClampNeg (μ.1 b 0)) p0)) (b + 2) (Int32.toNatClampNeg (((upI μ (b + 1) (Int32.toNatClampNeg (μ.1 b 0)) p0)).1 b 0)) p1)) (b + 3) (Int32.toNatClampNeg (((upI ((upI μ (b + 1) (Int32.toNatClampNeg (μ.1 b 0)) p0)) (b + 2) (Int32.toNatClampNeg (((upI μ (b + 1) (Int32.toNatClampNeg (μ.1 b 0)) p0)).1 b 0)) p1)).1 b 0)) 0)).1 b 0)) 0)).1 b 5) &&& ((1 <<< ((((upI ((upI ((upI ((upI μ (b + 1) (Int32.toNatClampNeg (μ.1 b 0)) p0)) (b + 2) (Int32.toNatClampNeg (((upI μ (b + 1) (Int32.toNatClampNeg (μ.1 b 0)) p0)).1 b 0)) p1)) (b + 3) (Int32.toNatClampNeg (((upI ((upI μ (b + 1) (Int32.toNatClampNeg (μ.1 b 0)) p0)) (b + 2) (Int32.toNatClampNeg (((upI μ (b + 1) (Int32.toNatClampNeg (μ.1 b 0)) p0)).1 b 0)) p1)).1 b 0)) 0)) (b + 4) (Int32.toNatClampNeg (((upI ((upI ((upI μ (b + 1) (Int32.toNatClampNeg (μ.1 b 0)) p0)) (b + 2) (Int32.toNatClampNeg (((upI μ (b + 1) (Int32.toNatClampNeg (μ.1 b 0)) p0)).1 b 0)) p1)) (b + 3) (Int32.toNatClampNeg (((upI ((upI μ (b + 1) (Int32.toNatClampNeg (μ.1 b 0)) p0)) (b + 2) (Int32.toNatClampNeg (((upI μ (b + 1) (Int32.toNatClampNeg (μ.1 b 0)) p0)).1 b 0)) p1)).1 b 0)) 0)).1 b 0)) 0)).1 b 0) &&& 31)) ^^^ (-1))))).1 b 0) + 1))) : Mm) := by
    refine J_nm (fun μ12 eμ12 => ?_)
    subst eμ12
    exact J_vret (dk okX1_join 45 rfl) rfl k
  refine J_icmp_ge (tgt := 76) (dk okX1_join 3 rfl) (by decide) (fun h1 => ?_) (fun h1 => ?_)
  · refine J_sub (ls' := []) [] rfl ?_
    (try simp only [if_pos h1] at K13 ⊢); exact K13
  · have t := t h1
    refine J_aload_n (dk okX1_join 4 rfl) 0 rfl rfl ?_
    refine J_getR (dk okX1_join 5 rfl) kfX1_15 hb.1 rfl ?_
    refine J_aload_n (dk okX1_join 6 rfl) 0 rfl rfl ?_
    refine J_getI (dk okX1_join 7 rfl) kfX1_9 hb.1 rfl ?_
    refine J_iload_n (dk okX1_join 8 rfl) 1 rfl rfl ?_
    obtain ⟨s2, t⟩ := t
    refine J_iast (dk okX1_join 9 rfl) hb.2.1 s2 ?_
    refine J_nm (fun μ3 eμ3 => ?_)
    have t := t μ3 eμ3
    refine J_aload_n (dk okX1_join 10 rfl) 0 rfl rfl ?_
    refine J_getR (dk okX1_join 11 rfl) kfX1_19 hb.1 rfl ?_
    refine J_aload_n (dk okX1_join 12 rfl) 0 rfl rfl ?_
    refine J_getI (dk okX1_join 13 rfl) kfX1_9 hb.1 rfl ?_
    refine J_iload_n (dk okX1_join 14 rfl) 2 rfl rfl ?_
    obtain ⟨s4, t⟩ := t
    refine J_iast (dk okX1_join 15 rfl) hb.2.2.1 s4 ?_
    refine J_nm (fun μ5 eμ5 => ?_)
    have t := t μ5 eμ5
    refine J_aload_n (dk okX1_join 16 rfl) 0 rfl rfl ?_
    refine J_getR (dk okX1_join 17 rfl) kfX1_22 hb.1 rfl ?_
    refine J_aload_n (dk okX1_join 18 rfl) 0 rfl rfl ?_
    refine J_getI (dk okX1_join 19 rfl) kfX1_9 hb.1 rfl ?_
    refine J_iconst (v := 0) (dk okX1_join 20 rfl) (by decide) ?_
    obtain ⟨s6, t⟩ := t
    refine J_iast (dk okX1_join 21 rfl) hb.2.2.2.1 s6 ?_
    refine J_nm (fun μ7 eμ7 => ?_)
    have t := t μ7 eμ7
    refine J_aload_n (dk okX1_join 22 rfl) 0 rfl rfl ?_
    refine J_getR (dk okX1_join 23 rfl) kfX1_25 hb.1 rfl ?_
    refine J_aload_n (dk okX1_join 24 rfl) 0 rfl rfl ?_
    refine J_getI (dk okX1_join 25 rfl) kfX1_9 hb.1 rfl ?_
    refine J_iconst (v := 0) (dk okX1_join 26 rfl) (by decide) ?_
    have s8 := t
    refine J_iast (dk okX1_join 27 rfl) hb.2.2.2.2.1 s8 ?_
    refine J_nm (fun μ9 eμ9 => ?_)
    refine J_aload_n (dk okX1_join 28 rfl) 0 rfl rfl ?_
    refine J_dup (dk okX1_join 29 rfl) rfl ?_
    refine J_getI (dk okX1_join 30 rfl) kfX1_28 hb.1 rfl ?_
    refine J_iconst (v := 1) (dk okX1_join 31 rfl) (by decide) ?_
    refine J_aload_n (dk okX1_join 32 rfl) 0 rfl rfl ?_
    refine J_getI (dk okX1_join 33 rfl) kfX1_9 hb.1 rfl ?_
    refine J_ishl (dk okX1_join 34 rfl) ?_
    refine J_iconst (v := (-1)) (dk okX1_join 35 rfl) (by decide) ?_
    refine J_ixor (dk okX1_join 36 rfl) ?_
    refine J_iand (dk okX1_join 37 rfl) ?_
    refine J_put (dk okX1_join 38 rfl) kpX1_28 hb.1 rfl rfl rfl ?_
    refine J_nm (fun μ10 eμ10 => ?_)
    refine J_aload_n (dk okX1_join 39 rfl) 0 rfl rfl ?_
    refine J_dup (dk okX1_join 40 rfl) rfl ?_
    refine J_getI (dk okX1_join 41 rfl) kfX1_9 hb.1 rfl ?_
    refine J_iconst (v := 1) (dk okX1_join 42 rfl) (by decide) ?_
    refine J_iadd (dk okX1_join 43 rfl) ?_
    refine J_put (dk okX1_join 44 rfl) kpX1_9 hb.1 rfl rfl rfl ?_
    refine J_nm (fun μ11 eμ11 => ?_)
    subst eμ11 eμ10 eμ9 eμ7 eμ5 eμ3
    refine J_sub (ls' := []) [] rfl ?_
    (try simp only [if_neg h1] at K13 ⊢); exact K13
/-- VotingFloor$Floor.present()I -/
def v_X1_present (b : Nat) (μ : Mm) : Int32 := (((1 <<< ((μ.1 b 0) &&& 31)) - 1) &&& ((μ.1 b 5) ^^^ (-1)))
set_option maxRecDepth 20000 in
set_option maxHeartbeats 4000000 in
theorem con_X1_present {E : Ex} {Q : Option Value → Mm → Prop} {b : Nat} {μ : Mm} (hb : FloorAt b) (k : Q (some (.int (v_X1_present b μ))) μ) : Con E 1 mX1_present [rf E b] μ Q := by
  refine Con_J (by decide +kernel) (Nat.le_of_ble_eq_true rfl) (fun G => ?_)
  unfold v_X1_present at k
  refine J_sub (ls' := [(0, rf E b)]) [0] rfl ?_
  refine J_iconst (v := 1) (dk okX1_present 0 rfl) (by decide) ?_
  refine J_aload_n (dk okX1_present 1 rfl) 0 rfl rfl ?_
  refine J_getI (dk okX1_present 2 rfl) kfX1_9 hb.1 rfl ?_
  refine J_ishl (dk okX1_present 3 rfl) ?_
  refine J_iconst (v := 1) (dk okX1_present 4 rfl) (by decide) ?_
  refine J_isub (dk okX1_present 5 rfl) ?_
  refine J_aload_n (dk okX1_present 6 rfl) 0 rfl rfl ?_
  refine J_getI (dk okX1_present 7 rfl) kfX1_28 hb.1 rfl ?_
  refine J_iconst (v := (-1)) (dk okX1_present 8 rfl) (by decide) ?_
  refine J_ixor (dk okX1_present 9 rfl) ?_
  refine J_iand (dk okX1_present 10 rfl) ?_
  exact J_iret (dk okX1_present 11 rfl) rfl k
/-- VotingFloor$Floor.setNoon(I)I -/
def v_X1_setNoon (b : Nat) (p0 : Int32) (μ : Mm) : Int32 := (if p0 < 1 then (-1) else (if p0 ≤ 60 then (if (μ.1 b 7) = p0 then (-2) else (μ.1 b 7) : Int32) else (-1)))
def e_X1_setNoon (b : Nat) (p0 : Int32) (μ : Mm) : Mm := (if p0 < 1 then μ else (if p0 ≤ 60 then (let μ3 : Mm := (upI μ b 7 p0); μ3) else μ))
set_option maxRecDepth 20000 in
set_option maxHeartbeats 4000000 in
theorem con_X1_setNoon {E : Ex} {Q : Option Value → Mm → Prop} {b : Nat} {p0 : Int32} {μ : Mm} (hb : FloorAt b) (k : Q (some (.int (v_X1_setNoon b p0 μ))) (e_X1_setNoon b p0 μ)) : Con E 1 mX1_setNoon [rf E b, .int p0] μ Q := by
  refine Con_J (by decide +kernel) (Nat.le_of_ble_eq_true rfl) (fun G => ?_)
  unfold v_X1_setNoon e_X1_setNoon at k
  refine J_sub (ls' := [(0, rf E b), (1, .int p0)]) [0, 1] rfl ?_
  refine J_iload_n (dk okX1_setNoon 0 rfl) 1 rfl rfl ?_
  refine J_iconst (v := 1) (dk okX1_setNoon 1 rfl) (by decide) ?_
  refine J_icmp_lt (tgt := 11) (dk okX1_setNoon 2 rfl) (by decide) (fun h1 => ?_) (fun h1 => ?_)
  · refine J_iconst (v := (-1)) (dk okX1_setNoon 6 rfl) (by decide) ?_
    (try simp only [if_pos h1] at k ⊢)
    exact J_iret (dk okX1_setNoon 7 rfl) rfl k
  · refine J_iload_n (dk okX1_setNoon 3 rfl) 1 rfl rfl ?_
    refine J_bipush (v := 60) (dk okX1_setNoon 4 rfl) (by decide) ?_
    refine J_icmp_le (tgt := 13) (dk okX1_setNoon 5 rfl) (by decide) (fun h2 => ?_) (fun h2 => ?_)
    · refine J_aload_n (dk okX1_setNoon 8 rfl) 0 rfl rfl ?_
      refine J_getI (dk okX1_setNoon 9 rfl) kfX1_34 hb.1 rfl ?_
      refine J_istore_n (ls' := [(2, _), (0, _), (1, _)]) (dk okX1_setNoon 10 rfl) rfl (by decide) rfl ?_
      refine J_aload_n (dk okX1_setNoon 11 rfl) 1 rfl rfl ?_
      refine J_iload_n (dk okX1_setNoon 12 rfl) 2 rfl rfl ?_
      refine J_put (dk okX1_setNoon 13 rfl) kpX1_34 hb.1 rfl rfl rfl ?_
      refine J_nm (fun μ3 eμ3 => ?_)
      refine J_iload_n (dk okX1_setNoon 14 rfl) 0 rfl rfl ?_
      refine J_iload_n (dk okX1_setNoon 15 rfl) 2 rfl rfl ?_
      have K5 : J E G 1 mX1_setNoon Q 34 [] [.int (if (μ.1 b 7) = p0 then (-2) else (μ.1 b 7) : Int32)] μ3 := by
        subst eμ3
        (try simp only [if_neg h1, if_pos h2] at k ⊢)
        exact J_iret (dk okX1_setNoon 20 rfl) rfl k
      refine J_icmp_ne (tgt := 33) (dk okX1_setNoon 16 rfl) (by decide) (fun h4 => ?_) (fun h4 => ?_)
      · refine J_iload_n (dk okX1_setNoon 19 rfl) 0 rfl rfl ?_
        refine J_sub (ls' := []) [] rfl ?_
        (try simp only [if_neg h4] at K5 ⊢); exact K5
      · refine J_bipush (v := (-2)) (dk okX1_setNoon 17 rfl) (by decide) ?_
        refine J_goto (tgt := 34) (dk okX1_setNoon 18 rfl) (by decide) ?_
        refine J_sub (ls' := []) [] rfl ?_
        (try simp only [if_pos h4] at K5 ⊢); exact K5
    · refine J_iconst (v := (-1)) (dk okX1_setNoon 6 rfl) (by decide) ?_
      (try simp only [if_neg h1, if_neg h2] at k ⊢)
      exact J_iret (dk okX1_setNoon 7 rfl) rfl k
/-- VotingFloor$Hearsay.add(II)Z -/
def v_X2_add (p0 : Int32) (p1 : Int32) (μ : Mm) : Int32 := (if (μ.1 42 2) < 12 then 1 else 0)
def e_X2_add (p0 : Int32) (p1 : Int32) (μ : Mm) : Mm := (if (μ.1 42 2) < 12 then (let μ3 : Mm := (upI μ 43 (Int32.toNatClampNeg (μ.1 42 2)) p0); (let μ5 : Mm := (upI μ3 44 (Int32.toNatClampNeg (μ3.1 42 2)) p1); (let μ6 : Mm := (upI μ5 42 2 ((μ5.1 42 2) + 1)); μ6))) else μ)
def p_X2_add (p0 : Int32) (p1 : Int32)  (μ : Mm) : Prop := ((μ.1 42 2) < 12 → (vp_in (μ.1 42 2) 12) ∧ (∀ μ3 : Mm, μ3 = (upI μ 43 (Int32.toNatClampNeg (μ.1 42 2)) p0) → vp_in (μ3.1 42 2) 12))
set_option maxRecDepth 20000 in
set_option maxHeartbeats 4000000 in
theorem con_X2_add {E : Ex} {Q : Option Value → Mm → Prop} {p0 : Int32} {p1 : Int32} {μ : Mm} (t : p_X2_add p0 p1  μ) (k : Q (some (.int (v_X2_add p0 p1 μ))) (e_X2_add p0 p1 μ)) : Con E 1 mX2_add [rf E 42, .int p0, .int p1] μ Q := by
  refine Con_J (by decide +kernel) (Nat.le_of_ble_eq_true rfl) (fun G => ?_)
  unfold v_X2_add e_X2_add at k
  unfold p_X2_add at t
  refine J_sub (ls' := [(0, rf E 42), (1, .int p0), (2, .int p1)]) [0, 1, 2] rfl ?_
  refine J_aload_n (dk okX2_add 0 rfl) 0 rfl rfl ?_
  refine J_getI (dk okX2_add 1 rfl) kfX2_18 ds_42 rfl ?_
  refine J_bipush (v := 12) (dk okX2_add 2 rfl) (by decide) ?_
  refine J_icmp_lt (tgt := 11) (dk okX2_add 3 rfl) (by decide) (fun h1 => ?_) (fun h1 => ?_)
  · have t := t h1
    refine J_aload_n (dk okX2_add 6 rfl) 0 rfl rfl ?_
    refine J_getR (dk okX2_add 7 rfl) kfX2_11 ds_42 rfl ?_
    refine J_aload_n (dk okX2_add 8 rfl) 0 rfl rfl ?_
    refine J_getI (dk okX2_add 9 rfl) kfX2_18 ds_42 rfl ?_
    refine J_iload_n (dk okX2_add 10 rfl) 1 rfl rfl ?_
    obtain ⟨s2, t⟩ := t
    refine J_iast (dk okX2_add 11 rfl) ds_43 s2 ?_
    refine J_nm (fun μ3 eμ3 => ?_)
    have t := t μ3 eμ3
    refine J_aload_n (dk okX2_add 12 rfl) 0 rfl rfl ?_
    refine J_getR (dk okX2_add 13 rfl) kfX2_15 ds_42 rfl ?_
    refine J_aload_n (dk okX2_add 14 rfl) 0 rfl rfl ?_
    refine J_getI (dk okX2_add 15 rfl) kfX2_18 ds_42 rfl ?_
    refine J_iload_n (dk okX2_add 16 rfl) 2 rfl rfl ?_
    have s4 := t
    refine J_iast (dk okX2_add 17 rfl) ds_44 s4 ?_
    refine J_nm (fun μ5 eμ5 => ?_)
    refine J_aload_n (dk okX2_add 18 rfl) 0 rfl rfl ?_
    refine J_dup (dk okX2_add 19 rfl) rfl ?_
    refine J_getI (dk okX2_add 20 rfl) kfX2_18 ds_42 rfl ?_
    refine J_iconst (v := 1) (dk okX2_add 21 rfl) (by decide) ?_
    refine J_iadd (dk okX2_add 22 rfl) ?_
    refine J_put (dk okX2_add 23 rfl) kpX2_18 ds_42 rfl rfl rfl ?_
    refine J_nm (fun μ6 eμ6 => ?_)
    refine J_iconst (v := 1) (dk okX2_add 24 rfl) (by decide) ?_
    subst eμ6 eμ5 eμ3
    (try simp only [if_pos h1] at k ⊢)
    exact J_zret (dk okX2_add 25 rfl) rfl rfl k
  · refine J_iconst (v := 0) (dk okX2_add 4 rfl) (by decide) ?_
    (try simp only [if_neg h1] at k ⊢)
    exact J_zret (dk okX2_add 5 rfl) rfl rfl k
theorem nb_X2_add (p0 : Int32) (p1 : Int32) (μ : Mm) : narrow .boolean (.int (v_X2_add p0 p1 μ)) = .int (v_X2_add p0 p1 μ) := by
  unfold v_X2_add; (repeat' split) <;> rfl
/-- VotingFloor$Hearsay.mayBe(II)Z -/
def v_X2_mayBe (p0 : Int32) (p1 : Int32) : Int32 := (if p0 = 0 then (if p1 < 1 then 0 else (if 18 < p1 then 0 else 1 : Int32) : Int32) else (if p0 = 1 then (if p1 = 0 then 1 else (if p1 = 1 then 1 else 0 : Int32) : Int32) else (if p0 = 2 then (if p1 < 0 then 0 else (if 9 < p1 then 0 else 1 : Int32) : Int32) else (if p0 = 3 then (if p1 = 0 then 1 else (if p1 = 1 then 1 else 0 : Int32) : Int32) else (if p0 = 4 then (if p1 = 0 then 1 else (if p1 = 1 then 1 else 0 : Int32) : Int32) else 0)))))
set_option maxRecDepth 20000 in
set_option maxHeartbeats 4000000 in
theorem con_X2_mayBe {E : Ex} {Q : Option Value → Mm → Prop} {p0 : Int32} {p1 : Int32} {μ : Mm} (k : Q (some (.int (v_X2_mayBe p0 p1))) μ) : Con E 1 mX2_mayBe [.int p0, .int p1] μ Q := by
  refine Con_J (by decide +kernel) (Nat.le_of_ble_eq_true rfl) (fun G => ?_)
  unfold v_X2_mayBe at k
  refine J_sub (ls' := [(0, .int p0), (1, .int p1)]) [0, 1] rfl ?_
  refine J_iload_n (dk okX2_mayBe 0 rfl) 0 rfl rfl ?_
  by_cases h2 : p0 = 0
  · refine J_at h2 (J_tableIn (x := 0) (off := 35) (tgt := 36) (dk okX2_mayBe 1 rfl) (by decide) (by decide) (by decide) (by decide) ?_)
    refine J_iload_n (dk okX2_mayBe 2 rfl) 1 rfl rfl ?_
    refine J_iconst (v := 1) (dk okX2_mayBe 3 rfl) (by decide) ?_
    have K5 : J E G 1 mX2_mayBe Q 52 [] [.int (if p1 < 1 then 0 else (if 18 < p1 then 0 else 1 : Int32) : Int32)] μ := by
      (try simp only [if_pos h2] at k ⊢)
      exact J_zret (dk okX2_mayBe 11 rfl) rfl (by (repeat' split) <;> first | rfl | (simp only [*]; rfl)) k
    refine J_icmp_lt (tgt := 51) (dk okX2_mayBe 4 rfl) (by decide) (fun h3 => ?_) (fun h3 => ?_)
    · refine J_iconst (v := 0) (dk okX2_mayBe 10 rfl) (by decide) ?_
      refine J_sub (ls' := []) [] rfl ?_
      (try simp only [if_pos h3] at K5 ⊢); exact K5
    · refine J_iload_n (dk okX2_mayBe 5 rfl) 1 rfl rfl ?_
      refine J_bipush (v := 18) (dk okX2_mayBe 6 rfl) (by decide) ?_
      refine J_icmp_gt (tgt := 51) (dk okX2_mayBe 7 rfl) (by decide) (fun h4 => ?_) (fun h4 => ?_)
      · refine J_iconst (v := 0) (dk okX2_mayBe 10 rfl) (by decide) ?_
        refine J_sub (ls' := []) [] rfl ?_
        (try simp only [if_neg h3, if_pos h4] at K5 ⊢); exact K5
      · refine J_iconst (v := 1) (dk okX2_mayBe 8 rfl) (by decide) ?_
        refine J_goto (tgt := 52) (dk okX2_mayBe 9 rfl) (by decide) ?_
        refine J_sub (ls' := []) [] rfl ?_
        (try simp only [if_neg h3, if_neg h4] at K5 ⊢); exact K5
  · by_cases h6 : p0 = 1
    · refine J_at h6 (J_tableIn (x := 1) (off := 68) (tgt := 69) (dk okX2_mayBe 1 rfl) (by decide) (by decide) (by decide) (by decide) ?_)
      refine J_iload_n (dk okX2_mayBe 21 rfl) 1 rfl rfl ?_
      have K9 : J E G 1 mX2_mayBe Q 83 [] [.int (if p1 = 0 then 1 else (if p1 = 1 then 1 else 0 : Int32) : Int32)] μ := by
        (try simp only [if_neg h2, if_pos h6] at k ⊢)
        exact J_zret (dk okX2_mayBe 29 rfl) rfl (by (repeat' split) <;> first | rfl | (simp only [*]; rfl)) k
      refine J_if_eq (tgt := 78) (dk okX2_mayBe 22 rfl) (by decide) (fun h7 => ?_) (fun h7 => ?_)
      · refine J_iconst (v := 1) (dk okX2_mayBe 26 rfl) (by decide) ?_
        refine J_goto (tgt := 83) (dk okX2_mayBe 27 rfl) (by decide) ?_
        refine J_sub (ls' := []) [] rfl ?_
        (try simp only [if_pos h7] at K9 ⊢); exact K9
      · refine J_iload_n (dk okX2_mayBe 23 rfl) 1 rfl rfl ?_
        refine J_iconst (v := 1) (dk okX2_mayBe 24 rfl) (by decide) ?_
        refine J_icmp_ne (tgt := 82) (dk okX2_mayBe 25 rfl) (by decide) (fun h8 => ?_) (fun h8 => ?_)
        · refine J_iconst (v := 0) (dk okX2_mayBe 28 rfl) (by decide) ?_
          refine J_sub (ls' := []) [] rfl ?_
          (try simp only [if_neg h7, if_neg h8] at K9 ⊢); exact K9
        · refine J_iconst (v := 1) (dk okX2_mayBe 26 rfl) (by decide) ?_
          refine J_goto (tgt := 83) (dk okX2_mayBe 27 rfl) (by decide) ?_
          refine J_sub (ls' := []) [] rfl ?_
          (try simp only [if_neg h7, if_pos h8] at K9 ⊢); exact K9
    · by_cases h10 : p0 = 2
      · refine J_at h10 (J_tableIn (x := 2) (off := 52) (tgt := 53) (dk okX2_mayBe 1 rfl) (by decide) (by decide) (by decide) (by decide) ?_)
        refine J_iload_n (dk okX2_mayBe 12 rfl) 1 rfl rfl ?_
        have K13 : J E G 1 mX2_mayBe Q 68 [] [.int (if p1 < 0 then 0 else (if 9 < p1 then 0 else 1 : Int32) : Int32)] μ := by
          (try simp only [if_neg h2, if_neg h6, if_pos h10] at k ⊢)
          exact J_zret (dk okX2_mayBe 20 rfl) rfl (by (repeat' split) <;> first | rfl | (simp only [*]; rfl)) k
        refine J_if_lt (tgt := 67) (dk okX2_mayBe 13 rfl) (by decide) (fun h11 => ?_) (fun h11 => ?_)
        · refine J_iconst (v := 0) (dk okX2_mayBe 19 rfl) (by decide) ?_
          refine J_sub (ls' := []) [] rfl ?_
          (try simp only [if_pos h11] at K13 ⊢); exact K13
        · refine J_iload_n (dk okX2_mayBe 14 rfl) 1 rfl rfl ?_
          refine J_bipush (v := 9) (dk okX2_mayBe 15 rfl) (by decide) ?_
          refine J_icmp_gt (tgt := 67) (dk okX2_mayBe 16 rfl) (by decide) (fun h12 => ?_) (fun h12 => ?_)
          · refine J_iconst (v := 0) (dk okX2_mayBe 19 rfl) (by decide) ?_
            refine J_sub (ls' := []) [] rfl ?_
            (try simp only [if_neg h11, if_pos h12] at K13 ⊢); exact K13
          · refine J_iconst (v := 1) (dk okX2_mayBe 17 rfl) (by decide) ?_
            refine J_goto (tgt := 68) (dk okX2_mayBe 18 rfl) (by decide) ?_
            refine J_sub (ls' := []) [] rfl ?_
            (try simp only [if_neg h11, if_neg h12] at K13 ⊢); exact K13
      · by_cases h14 : p0 = 3
        · refine J_at h14 (J_tableIn (x := 3) (off := 68) (tgt := 69) (dk okX2_mayBe 1 rfl) (by decide) (by decide) (by decide) (by decide) ?_)
          refine J_iload_n (dk okX2_mayBe 21 rfl) 1 rfl rfl ?_
          have K17 : J E G 1 mX2_mayBe Q 83 [] [.int (if p1 = 0 then 1 else (if p1 = 1 then 1 else 0 : Int32) : Int32)] μ := by
            (try simp only [if_neg h2, if_neg h6, if_neg h10, if_pos h14] at k ⊢)
            exact J_zret (dk okX2_mayBe 29 rfl) rfl (by (repeat' split) <;> first | rfl | (simp only [*]; rfl)) k
          refine J_if_eq (tgt := 78) (dk okX2_mayBe 22 rfl) (by decide) (fun h15 => ?_) (fun h15 => ?_)
          · refine J_iconst (v := 1) (dk okX2_mayBe 26 rfl) (by decide) ?_
            refine J_goto (tgt := 83) (dk okX2_mayBe 27 rfl) (by decide) ?_
            refine J_sub (ls' := []) [] rfl ?_
            (try simp only [if_pos h15] at K17 ⊢); exact K17
          · refine J_iload_n (dk okX2_mayBe 23 rfl) 1 rfl rfl ?_
            refine J_iconst (v := 1) (dk okX2_mayBe 24 rfl) (by decide) ?_
            refine J_icmp_ne (tgt := 82) (dk okX2_mayBe 25 rfl) (by decide) (fun h16 => ?_) (fun h16 => ?_)
            · refine J_iconst (v := 0) (dk okX2_mayBe 28 rfl) (by decide) ?_
              refine J_sub (ls' := []) [] rfl ?_
              (try simp only [if_neg h15, if_neg h16] at K17 ⊢); exact K17
            · refine J_iconst (v := 1) (dk okX2_mayBe 26 rfl) (by decide) ?_
              refine J_goto (tgt := 83) (dk okX2_mayBe 27 rfl) (by decide) ?_
              refine J_sub (ls' := []) [] rfl ?_
              (try simp only [if_neg h15, if_pos h16] at K17 ⊢); exact K17
        · by_cases h18 : p0 = 4
          · refine J_at h18 (J_tableIn (x := 4) (off := 68) (tgt := 69) (dk okX2_mayBe 1 rfl) (by decide) (by decide) (by decide) (by decide) ?_)
            refine J_iload_n (dk okX2_mayBe 21 rfl) 1 rfl rfl ?_
            have K21 : J E G 1 mX2_mayBe Q 83 [] [.int (if p1 = 0 then 1 else (if p1 = 1 then 1 else 0 : Int32) : Int32)] μ := by
              (try simp only [if_neg h2, if_neg h6, if_neg h10, if_neg h14, if_pos h18] at k ⊢)
              exact J_zret (dk okX2_mayBe 29 rfl) rfl (by (repeat' split) <;> first | rfl | (simp only [*]; rfl)) k
            refine J_if_eq (tgt := 78) (dk okX2_mayBe 22 rfl) (by decide) (fun h19 => ?_) (fun h19 => ?_)
            · refine J_iconst (v := 1) (dk okX2_mayBe 26 rfl) (by decide) ?_
              refine J_goto (tgt := 83) (dk okX2_mayBe 27 rfl) (by decide) ?_
              refine J_sub (ls' := []) [] rfl ?_
              (try simp only [if_pos h19] at K21 ⊢); exact K21
            · refine J_iload_n (dk okX2_mayBe 23 rfl) 1 rfl rfl ?_
              refine J_iconst (v := 1) (dk okX2_mayBe 24 rfl) (by decide) ?_
              refine J_icmp_ne (tgt := 82) (dk okX2_mayBe 25 rfl) (by decide) (fun h20 => ?_) (fun h20 => ?_)
              · refine J_iconst (v := 0) (dk okX2_mayBe 28 rfl) (by decide) ?_
                refine J_sub (ls' := []) [] rfl ?_
                (try simp only [if_neg h19, if_neg h20] at K21 ⊢); exact K21
              · refine J_iconst (v := 1) (dk okX2_mayBe 26 rfl) (by decide) ?_
                refine J_goto (tgt := 83) (dk okX2_mayBe 27 rfl) (by decide) ?_
                refine J_sub (ls' := []) [] rfl ?_
                (try simp only [if_neg h19, if_pos h20] at K21 ⊢); exact K21
          · have nh2 := lv_neT (a := 0) h2 (by decide)
            have nh6 := lv_neT (a := 1) h6 (by decide)
            have nh10 := lv_neT (a := 2) h10 (by decide)
            have nh14 := lv_neT (a := 3) h14 (by decide)
            have nh18 := lv_neT (a := 4) h18 (by decide)
            refine J_tableOut (tgt := 84) (dk okX2_mayBe 1 rfl) (by omega) (by decide) ?_
            refine J_iconst (v := 0) (dk okX2_mayBe 30 rfl) (by decide) ?_
            (try simp only [if_neg h2, if_neg h6, if_neg h10, if_neg h14, if_neg h18] at k ⊢)
            exact J_zret (dk okX2_mayBe 31 rfl) rfl rfl k
theorem nb_X2_mayBe (p0 : Int32) (p1 : Int32) : narrow .boolean (.int (v_X2_mayBe p0 p1)) = .int (v_X2_mayBe p0 p1) := by
  unfold v_X2_mayBe; (repeat' split) <;> rfl
/-- VotingFloor$Pile.clear()V -/
def e_X4_clear (b : Nat) (μ : Mm) : Mm := (let μ1 : Mm := (upI μ b 1 0); μ1)
set_option maxRecDepth 20000 in
set_option maxHeartbeats 4000000 in
theorem con_X4_clear {E : Ex} {Q : Option Value → Mm → Prop} {b : Nat} {μ : Mm} (hb : PileAt b) (k : Q none (e_X4_clear b μ)) : Con E 1 mX4_clear [rf E b] μ Q := by
  refine Con_J (by decide +kernel) (Nat.le_of_ble_eq_true rfl) (fun G => ?_)
  unfold e_X4_clear at k
  refine J_sub (ls' := [(0, rf E b)]) [0] rfl ?_
  refine J_aload_n (dk okX4_clear 0 rfl) 0 rfl rfl ?_
  refine J_iconst (v := 0) (dk okX4_clear 1 rfl) (by decide) ?_
  refine J_put (dk okX4_clear 2 rfl) kpX4_15 hb.1 rfl rfl rfl ?_
  refine J_nm (fun μ1 eμ1 => ?_)
  subst eμ1
  exact J_vret (dk okX4_clear 3 rfl) rfl k
/-- VotingFloor$Pile.pop()I -/
def v_X4_pop (b : Nat) (μ : Mm) : Int32 := (if (μ.1 b 1) = 0 then 0 else (let μ2 : Mm := (upI μ b 1 ((μ.1 b 1) - 1)); (μ2.1 (b + 1) (Int32.toNatClampNeg (μ2.1 b 1)))))
def e_X4_pop (b : Nat) (μ : Mm) : Mm := (if (μ.1 b 1) = 0 then μ else (let μ2 : Mm := (upI μ b 1 ((μ.1 b 1) - 1)); μ2))
def p_X4_pop (b : Nat)  (μ : Mm) : Prop := (¬ ((μ.1 b 1) = 0) → (∀ μ2 : Mm, μ2 = (upI μ b 1 ((μ.1 b 1) - 1)) → vp_in (μ2.1 b 1) 41))
set_option maxRecDepth 20000 in
set_option maxHeartbeats 4000000 in
theorem con_X4_pop {E : Ex} {Q : Option Value → Mm → Prop} {b : Nat} {μ : Mm} (hb : PileAt b) (t : p_X4_pop b  μ) (k : Q (some (.int (v_X4_pop b μ))) (e_X4_pop b μ)) : Con E 1 mX4_pop [rf E b] μ Q := by
  refine Con_J (by decide +kernel) (Nat.le_of_ble_eq_true rfl) (fun G => ?_)
  unfold v_X4_pop e_X4_pop at k
  unfold p_X4_pop at t
  refine J_sub (ls' := [(0, rf E b)]) [0] rfl ?_
  refine J_aload_n (dk okX4_pop 0 rfl) 0 rfl rfl ?_
  refine J_getI (dk okX4_pop 1 rfl) kfX4_15 hb.1 rfl ?_
  refine J_if_ne (tgt := 9) (dk okX4_pop 2 rfl) (by decide) (fun h1 => ?_) (fun h1 => ?_)
  · have t := t h1
    refine J_aload_n (dk okX4_pop 5 rfl) 0 rfl rfl ?_
    refine J_dup (dk okX4_pop 6 rfl) rfl ?_
    refine J_getI (dk okX4_pop 7 rfl) kfX4_15 hb.1 rfl ?_
    refine J_iconst (v := 1) (dk okX4_pop 8 rfl) (by decide) ?_
    refine J_isub (dk okX4_pop 9 rfl) ?_
    refine J_put (dk okX4_pop 10 rfl) kpX4_15 hb.1 rfl rfl rfl ?_
    refine J_nm (fun μ2 eμ2 => ?_)
    have t := t μ2 eμ2
    refine J_aload_n (dk okX4_pop 11 rfl) 0 rfl rfl ?_
    refine J_getR (dk okX4_pop 12 rfl) kfX4_9 hb.1 rfl ?_
    refine J_aload_n (dk okX4_pop 13 rfl) 0 rfl rfl ?_
    refine J_getI (dk okX4_pop 14 rfl) kfX4_15 hb.1 rfl ?_
    have s3 := t
    refine J_iald (dk okX4_pop 15 rfl) hb.2 s3 ?_
    subst eμ2
    (try simp only [if_neg h1] at k ⊢)
    exact J_iret (dk okX4_pop 16 rfl) rfl k
  · refine J_iconst (v := 0) (dk okX4_pop 3 rfl) (by decide) ?_
    (try simp only [if_pos h1] at k ⊢)
    exact J_iret (dk okX4_pop 4 rfl) rfl k
/-- VotingFloor$Pile.push(I)V -/
def e_X4_push (b : Nat) (p0 : Int32) (μ : Mm) : Mm := (let μ5 : Mm := (if (Int32.ofNat 41) ≤ (μ.1 b 1) then μ else ((upI ((upI μ (b + 1) (Int32.toNatClampNeg (μ.1 b 1)) p0)) b 1 ((((upI μ (b + 1) (Int32.toNatClampNeg (μ.1 b 1)) p0)).1 b 1) + 1))) : Mm); μ5)
def p_X4_push (b : Nat) (p0 : Int32)  (μ : Mm) : Prop := (¬ ((Int32.ofNat 41) ≤ (μ.1 b 1)) → vp_in (μ.1 b 1) 41)
set_option maxRecDepth 20000 in
set_option maxHeartbeats 4000000 in
theorem con_X4_push {E : Ex} {Q : Option Value → Mm → Prop} {b : Nat} {p0 : Int32} {μ : Mm} (hb : PileAt b) (t : p_X4_push b p0  μ) (k : Q none (e_X4_push b p0 μ)) : Con E 1 mX4_push [rf E b, .int p0] μ Q := by
  refine Con_J (by decide +kernel) (Nat.le_of_ble_eq_true rfl) (fun G => ?_)
  unfold e_X4_push at k
  unfold p_X4_push at t
  refine J_sub (ls' := [(0, rf E b), (1, .int p0)]) [0, 1] rfl ?_
  refine J_aload_n (dk okX4_push 0 rfl) 0 rfl rfl ?_
  refine J_getI (dk okX4_push 1 rfl) kfX4_15 hb.1 rfl ?_
  refine J_aload_n (dk okX4_push 2 rfl) 0 rfl rfl ?_
  refine J_getR (dk okX4_push 3 rfl) kfX4_9 hb.1 rfl ?_
  refine J_alen (by decide) (by decide) (dk okX4_push 4 rfl) hb.2 ?_
  have K6 : J E G 1 mX4_push Q 32 [] [] (if (Int32.ofNat 41) ≤ (μ.1 b 1) then μ else ((upI ((upI μ (b + 1) (Int32.toNatClampNeg (μ.1 b 1)) p0)) b 1 ((((upI μ (b + 1) (Int32.toNatClampNeg (μ.1 b 1)) p0)).1 b 1) + 1))) : Mm) := by
    refine J_nm (fun μ5 eμ5 => ?_)
    subst eμ5
    exact J_vret (dk okX4_push 18 rfl) rfl k
  refine J_icmp_ge (tgt := 32) (dk okX4_push 5 rfl) (by decide) (fun h1 => ?_) (fun h1 => ?_)
  · refine J_sub (ls' := []) [] rfl ?_
    (try simp only [if_pos h1] at K6 ⊢); exact K6
  · have t := t h1
    refine J_aload_n (dk okX4_push 6 rfl) 0 rfl rfl ?_
    refine J_getR (dk okX4_push 7 rfl) kfX4_9 hb.1 rfl ?_
    refine J_aload_n (dk okX4_push 8 rfl) 0 rfl rfl ?_
    refine J_getI (dk okX4_push 9 rfl) kfX4_15 hb.1 rfl ?_
    refine J_iload_n (dk okX4_push 10 rfl) 1 rfl rfl ?_
    have s2 := t
    refine J_iast (dk okX4_push 11 rfl) hb.2 s2 ?_
    refine J_nm (fun μ3 eμ3 => ?_)
    refine J_aload_n (dk okX4_push 12 rfl) 0 rfl rfl ?_
    refine J_dup (dk okX4_push 13 rfl) rfl ?_
    refine J_getI (dk okX4_push 14 rfl) kfX4_15 hb.1 rfl ?_
    refine J_iconst (v := 1) (dk okX4_push 15 rfl) (by decide) ?_
    refine J_iadd (dk okX4_push 16 rfl) ?_
    refine J_put (dk okX4_push 17 rfl) kpX4_15 hb.1 rfl rfl rfl ?_
    refine J_nm (fun μ4 eμ4 => ?_)
    subst eμ4 eμ3
    refine J_sub (ls' := []) [] rfl ?_
    (try simp only [if_neg h1] at K6 ⊢); exact K6
/-- VotingFloor$Pile.top()I -/
def v_X4_top (b : Nat) (μ : Mm) : Int32 := (if (μ.1 b 1) ≤ 0 then 0 else (μ.1 (b + 1) (Int32.toNatClampNeg ((μ.1 b 1) - 1))) : Int32)
def p_X4_top (b : Nat)  (μ : Mm) : Prop := (¬ ((μ.1 b 1) ≤ 0) → vp_in ((μ.1 b 1) - 1) 41)
set_option maxRecDepth 20000 in
set_option maxHeartbeats 4000000 in
theorem con_X4_top {E : Ex} {Q : Option Value → Mm → Prop} {b : Nat} {μ : Mm} (hb : PileAt b) (t : p_X4_top b  μ) (k : Q (some (.int (v_X4_top b μ))) μ) : Con E 1 mX4_top [rf E b] μ Q := by
  refine Con_J (by decide +kernel) (Nat.le_of_ble_eq_true rfl) (fun G => ?_)
  unfold v_X4_top at k
  unfold p_X4_top at t
  refine J_sub (ls' := [(0, rf E b)]) [0] rfl ?_
  refine J_aload_n (dk okX4_top 0 rfl) 0 rfl rfl ?_
  refine J_getI (dk okX4_top 1 rfl) kfX4_15 hb.1 rfl ?_
  have K3 : J E G 1 mX4_top Q 22 [] [.int (if (μ.1 b 1) ≤ 0 then 0 else (μ.1 (b + 1) (Int32.toNatClampNeg ((μ.1 b 1) - 1))) : Int32)] μ := by
    exact J_iret (dk okX4_top 12 rfl) rfl k
  refine J_if_le (tgt := 21) (dk okX4_top 2 rfl) (by decide) (fun h1 => ?_) (fun h1 => ?_)
  · refine J_iconst (v := 0) (dk okX4_top 11 rfl) (by decide) ?_
    refine J_sub (ls' := []) [] rfl ?_
    (try simp only [if_pos h1] at K3 ⊢); exact K3
  · have t := t h1
    refine J_aload_n (dk okX4_top 3 rfl) 0 rfl rfl ?_
    refine J_getR (dk okX4_top 4 rfl) kfX4_9 hb.1 rfl ?_
    refine J_aload_n (dk okX4_top 5 rfl) 0 rfl rfl ?_
    refine J_getI (dk okX4_top 6 rfl) kfX4_15 hb.1 rfl ?_
    refine J_iconst (v := 1) (dk okX4_top 7 rfl) (by decide) ?_
    refine J_isub (dk okX4_top 8 rfl) ?_
    have s2 := t
    refine J_iald (dk okX4_top 9 rfl) hb.2 s2 ?_
    refine J_goto (tgt := 22) (dk okX4_top 10 rfl) (by decide) ?_
    refine J_sub (ls' := []) [] rfl ?_
    (try simp only [if_neg h1] at K3 ⊢); exact K3
/-- VotingFloor$Rule.done(III)I -/
def v_X5_done (p0 : Int32) (p1 : Int32) (p2 : Int32) : Int32 := (if p0 = 42 then (p1 * p2) else (if p0 = 43 then (p1 + p2) else (if p0 = 45 then (p1 - p2) else (if p0 = 47 then (if p2 = 0 then 0 else (p1 / p2) : Int32) else (if p0 = 60 then (if p2 ≤ p1 then 0 else 1 : Int32) else (if p0 = 62 then (if p1 ≤ p2 then 0 else 1 : Int32) else (if p1 = p2 then 1 else 0 : Int32)))))))
def p_X5_done (p0 : Int32) (p1 : Int32) (p2 : Int32)  : Prop := (¬ (p0 = 42) → (¬ (p0 = 43) → (¬ (p0 = 45) → (p0 = 47 → (¬ (p2 = 0) → ¬ p2 = 0)))))
set_option maxRecDepth 20000 in
set_option maxHeartbeats 4000000 in
theorem con_X5_done {E : Ex} {Q : Option Value → Mm → Prop} {p0 : Int32} {p1 : Int32} {p2 : Int32} {μ : Mm} (t : p_X5_done p0 p1 p2 ) (k : Q (some (.int (v_X5_done p0 p1 p2))) μ) : Con E 1 mX5_done [.int p0, .int p1, .int p2] μ Q := by
  refine Con_J (by decide +kernel) (Nat.le_of_ble_eq_true rfl) (fun G => ?_)
  unfold v_X5_done at k
  unfold p_X5_done at t
  refine J_sub (ls' := [(0, .int p0), (1, .int p1), (2, .int p2)]) [0, 1, 2] rfl ?_
  refine J_iload_n (dk okX5_done 0 rfl) 0 rfl rfl ?_
  by_cases h2 : p0 = 42
  · refine J_at h2 (J_lookup (x := 42) (off := 67) (tgt := 68) (dk okX5_done 1 rfl) (by decide) (by decide) (by decide) ?_)
    refine J_iload_n (dk okX5_done 10 rfl) 1 rfl rfl ?_
    refine J_iload_n (dk okX5_done 11 rfl) 2 rfl rfl ?_
    refine J_imul (dk okX5_done 12 rfl) ?_
    (try simp only [if_pos h2] at k ⊢)
    exact J_iret (dk okX5_done 13 rfl) rfl k
  · have t := t h2
    by_cases h3 : p0 = 43
    · refine J_at h3 (J_lookup (x := 43) (off := 59) (tgt := 60) (dk okX5_done 1 rfl) (by decide) (by decide) (by decide) ?_)
      refine J_iload_n (dk okX5_done 2 rfl) 1 rfl rfl ?_
      refine J_iload_n (dk okX5_done 3 rfl) 2 rfl rfl ?_
      refine J_iadd (dk okX5_done 4 rfl) ?_
      (try simp only [if_neg h2, if_pos h3] at k ⊢)
      exact J_iret (dk okX5_done 5 rfl) rfl k
    · have t := t h3
      by_cases h4 : p0 = 45
      · refine J_at h4 (J_lookup (x := 45) (off := 63) (tgt := 64) (dk okX5_done 1 rfl) (by decide) (by decide) (by decide) ?_)
        refine J_iload_n (dk okX5_done 6 rfl) 1 rfl rfl ?_
        refine J_iload_n (dk okX5_done 7 rfl) 2 rfl rfl ?_
        refine J_isub (dk okX5_done 8 rfl) ?_
        (try simp only [if_neg h2, if_neg h3, if_pos h4] at k ⊢)
        exact J_iret (dk okX5_done 9 rfl) rfl k
      · have t := t h4
        by_cases h5 : p0 = 47
        · have t := t h5
          refine J_at h5 (J_lookup (x := 47) (off := 71) (tgt := 72) (dk okX5_done 1 rfl) (by decide) (by decide) (by decide) ?_)
          refine J_iload_n (dk okX5_done 14 rfl) 2 rfl rfl ?_
          have K8 : J E G 1 mX5_done Q 83 [] [.int (if p2 = 0 then 0 else (p1 / p2) : Int32)] μ := by
            (try simp only [if_neg h2, if_neg h3, if_neg h4, if_pos h5] at k ⊢)
            exact J_iret (dk okX5_done 21 rfl) rfl k
          refine J_if_ne (tgt := 80) (dk okX5_done 15 rfl) (by decide) (fun h6 => ?_) (fun h6 => ?_)
          · have t := t h6
            refine J_iload_n (dk okX5_done 18 rfl) 1 rfl rfl ?_
            refine J_iload_n (dk okX5_done 19 rfl) 2 rfl rfl ?_
            have s7 := t
            refine J_idiv (dk okX5_done 20 rfl) s7 ?_
            refine J_sub (ls' := []) [] rfl ?_
            (try simp only [if_neg h6] at K8 ⊢); exact K8
          · refine J_iconst (v := 0) (dk okX5_done 16 rfl) (by decide) ?_
            refine J_goto (tgt := 83) (dk okX5_done 17 rfl) (by decide) ?_
            refine J_sub (ls' := []) [] rfl ?_
            (try simp only [if_pos h6] at K8 ⊢); exact K8
        · by_cases h9 : p0 = 60
          · refine J_at h9 (J_lookup (x := 60) (off := 83) (tgt := 84) (dk okX5_done 1 rfl) (by decide) (by decide) (by decide) ?_)
            refine J_iload_n (dk okX5_done 22 rfl) 1 rfl rfl ?_
            refine J_iload_n (dk okX5_done 23 rfl) 2 rfl rfl ?_
            have K11 : J E G 1 mX5_done Q 94 [] [.int (if p2 ≤ p1 then 0 else 1 : Int32)] μ := by
              (try simp only [if_neg h2, if_neg h3, if_neg h4, if_neg h5, if_pos h9] at k ⊢)
              exact J_iret (dk okX5_done 28 rfl) rfl k
            refine J_icmp_ge (tgt := 93) (dk okX5_done 24 rfl) (by decide) (fun h10 => ?_) (fun h10 => ?_)
            · refine J_iconst (v := 0) (dk okX5_done 27 rfl) (by decide) ?_
              refine J_sub (ls' := []) [] rfl ?_
              (try simp only [if_pos h10] at K11 ⊢); exact K11
            · refine J_iconst (v := 1) (dk okX5_done 25 rfl) (by decide) ?_
              refine J_goto (tgt := 94) (dk okX5_done 26 rfl) (by decide) ?_
              refine J_sub (ls' := []) [] rfl ?_
              (try simp only [if_neg h10] at K11 ⊢); exact K11
          · by_cases h12 : p0 = 62
            · refine J_at h12 (J_lookup (x := 62) (off := 94) (tgt := 95) (dk okX5_done 1 rfl) (by decide) (by decide) (by decide) ?_)
              refine J_iload_n (dk okX5_done 29 rfl) 1 rfl rfl ?_
              refine J_iload_n (dk okX5_done 30 rfl) 2 rfl rfl ?_
              have K14 : J E G 1 mX5_done Q 105 [] [.int (if p1 ≤ p2 then 0 else 1 : Int32)] μ := by
                (try simp only [if_neg h2, if_neg h3, if_neg h4, if_neg h5, if_neg h9, if_pos h12] at k ⊢)
                exact J_iret (dk okX5_done 35 rfl) rfl k
              refine J_icmp_le (tgt := 104) (dk okX5_done 31 rfl) (by decide) (fun h13 => ?_) (fun h13 => ?_)
              · refine J_iconst (v := 0) (dk okX5_done 34 rfl) (by decide) ?_
                refine J_sub (ls' := []) [] rfl ?_
                (try simp only [if_pos h13] at K14 ⊢); exact K14
              · refine J_iconst (v := 1) (dk okX5_done 32 rfl) (by decide) ?_
                refine J_goto (tgt := 105) (dk okX5_done 33 rfl) (by decide) ?_
                refine J_sub (ls' := []) [] rfl ?_
                (try simp only [if_neg h13] at K14 ⊢); exact K14
            · refine J_lookup (off := 105) (tgt := 106) (dk okX5_done 1 rfl) (by decide) (by show Op.lookupswitch.offset [(42, 67), (43, 59), (45, 63), (47, 71), (60, 83), (62, 94)] 105 _ = _; rw [lv_osw (k := 42) h2 (by decide), lv_osw (k := 43) h3 (by decide), lv_osw (k := 45) h4 (by decide), lv_osw (k := 47) h5 (by decide), lv_osw (k := 60) h9 (by decide), lv_osw (k := 62) h12 (by decide)]; rfl) (by decide) ?_
              refine J_iload_n (dk okX5_done 36 rfl) 1 rfl rfl ?_
              refine J_iload_n (dk okX5_done 37 rfl) 2 rfl rfl ?_
              have K16 : J E G 1 mX5_done Q 116 [] [.int (if p1 = p2 then 1 else 0 : Int32)] μ := by
                (try simp only [if_neg h2, if_neg h3, if_neg h4, if_neg h5, if_neg h9, if_neg h12] at k ⊢)
                exact J_iret (dk okX5_done 42 rfl) rfl k
              refine J_icmp_ne (tgt := 115) (dk okX5_done 38 rfl) (by decide) (fun h15 => ?_) (fun h15 => ?_)
              · refine J_iconst (v := 0) (dk okX5_done 41 rfl) (by decide) ?_
                refine J_sub (ls' := []) [] rfl ?_
                (try simp only [if_neg h15] at K16 ⊢); exact K16
              · refine J_iconst (v := 1) (dk okX5_done 39 rfl) (by decide) ?_
                refine J_goto (tgt := 116) (dk okX5_done 40 rfl) (by decide) ?_
                refine J_sub (ls' := []) [] rfl ?_
                (try simp only [if_pos h15] at K16 ⊢); exact K16
/-- VotingFloor$Rule.emit(I)V -/
def e_X5_emit (b : Nat) (p0 : Int32) (μ : Mm) : Mm := (let μ5 : Mm := (if (Int32.ofNat 41) ≤ (μ.1 b 1) then μ else ((upI ((upI μ (b + 1) (Int32.toNatClampNeg (μ.1 b 1)) p0)) b 1 ((((upI μ (b + 1) (Int32.toNatClampNeg (μ.1 b 1)) p0)).1 b 1) + 1))) : Mm); μ5)
def p_X5_emit (b : Nat) (p0 : Int32)  (μ : Mm) : Prop := (¬ ((Int32.ofNat 41) ≤ (μ.1 b 1)) → vp_in (μ.1 b 1) 41)
set_option maxRecDepth 20000 in
set_option maxHeartbeats 4000000 in
theorem con_X5_emit {E : Ex} {Q : Option Value → Mm → Prop} {b : Nat} {p0 : Int32} {μ : Mm} (hb : RuleAt b) (t : p_X5_emit b p0  μ) (k : Q none (e_X5_emit b p0 μ)) : Con E 1 mX5_emit [rf E b, .int p0] μ Q := by
  refine Con_J (by decide +kernel) (Nat.le_of_ble_eq_true rfl) (fun G => ?_)
  unfold e_X5_emit at k
  unfold p_X5_emit at t
  refine J_sub (ls' := [(0, rf E b), (1, .int p0)]) [0, 1] rfl ?_
  refine J_aload_n (dk okX5_emit 0 rfl) 0 rfl rfl ?_
  refine J_getI (dk okX5_emit 1 rfl) kfX5_15 hb.1 rfl ?_
  refine J_aload_n (dk okX5_emit 2 rfl) 0 rfl rfl ?_
  refine J_getR (dk okX5_emit 3 rfl) kfX5_11 hb.1 rfl ?_
  refine J_alen (by decide) (by decide) (dk okX5_emit 4 rfl) hb.2.1 ?_
  have K6 : J E G 1 mX5_emit Q 32 [] [] (if (Int32.ofNat 41) ≤ (μ.1 b 1) then μ else ((upI ((upI μ (b + 1) (Int32.toNatClampNeg (μ.1 b 1)) p0)) b 1 ((((upI μ (b + 1) (Int32.toNatClampNeg (μ.1 b 1)) p0)).1 b 1) + 1))) : Mm) := by
    refine J_nm (fun μ5 eμ5 => ?_)
    subst eμ5
    exact J_vret (dk okX5_emit 18 rfl) rfl k
  refine J_icmp_ge (tgt := 32) (dk okX5_emit 5 rfl) (by decide) (fun h1 => ?_) (fun h1 => ?_)
  · refine J_sub (ls' := []) [] rfl ?_
    (try simp only [if_pos h1] at K6 ⊢); exact K6
  · have t := t h1
    refine J_aload_n (dk okX5_emit 6 rfl) 0 rfl rfl ?_
    refine J_getR (dk okX5_emit 7 rfl) kfX5_11 hb.1 rfl ?_
    refine J_aload_n (dk okX5_emit 8 rfl) 0 rfl rfl ?_
    refine J_getI (dk okX5_emit 9 rfl) kfX5_15 hb.1 rfl ?_
    refine J_iload_n (dk okX5_emit 10 rfl) 1 rfl rfl ?_
    have s2 := t
    refine J_iast (dk okX5_emit 11 rfl) hb.2.1 s2 ?_
    refine J_nm (fun μ3 eμ3 => ?_)
    refine J_aload_n (dk okX5_emit 12 rfl) 0 rfl rfl ?_
    refine J_dup (dk okX5_emit 13 rfl) rfl ?_
    refine J_getI (dk okX5_emit 14 rfl) kfX5_15 hb.1 rfl ?_
    refine J_iconst (v := 1) (dk okX5_emit 15 rfl) (by decide) ?_
    refine J_iadd (dk okX5_emit 16 rfl) ?_
    refine J_put (dk okX5_emit 17 rfl) kpX5_15 hb.1 rfl rfl rfl ?_
    refine J_nm (fun μ4 eμ4 => ?_)
    subst eμ4 eμ3
    refine J_sub (ls' := []) [] rfl ?_
    (try simp only [if_neg h1] at K6 ⊢); exact K6
/-- VotingFloor$Rule.rankOf(I)I -/
def v_X5_rankOf (p0 : Int32) : Int32 := (if p0 = 42 then 3 else (if p0 = 43 then 2 else (if p0 = 45 then 2 else (if p0 = 47 then 3 else (if p0 = 60 then 1 else (if p0 = 61 then 1 else (if p0 = 62 then 1 else (if p0 = 126 then 4 else 0))))))))
set_option maxRecDepth 20000 in
set_option maxHeartbeats 4000000 in
theorem con_X5_rankOf {E : Ex} {Q : Option Value → Mm → Prop} {p0 : Int32} {μ : Mm} (k : Q (some (.int (v_X5_rankOf p0))) μ) : Con E 1 mX5_rankOf [.int p0] μ Q := by
  refine Con_J (by decide +kernel) (Nat.le_of_ble_eq_true rfl) (fun G => ?_)
  unfold v_X5_rankOf at k
  refine J_sub (ls' := [(0, .int p0)]) [0] rfl ?_
  refine J_iload_n (dk okX5_rankOf 0 rfl) 0 rfl rfl ?_
  by_cases h2 : p0 = 42
  · refine J_at h2 (J_lookup (x := 42) (off := 79) (tgt := 80) (dk okX5_rankOf 1 rfl) (by decide) (by decide) (by decide) ?_)
    refine J_iconst (v := 3) (dk okX5_rankOf 6 rfl) (by decide) ?_
    (try simp only [if_pos h2] at k ⊢)
    exact J_iret (dk okX5_rankOf 7 rfl) rfl k
  · by_cases h3 : p0 = 43
    · refine J_at h3 (J_lookup (x := 43) (off := 77) (tgt := 78) (dk okX5_rankOf 1 rfl) (by decide) (by decide) (by decide) ?_)
      refine J_iconst (v := 2) (dk okX5_rankOf 4 rfl) (by decide) ?_
      (try simp only [if_neg h2, if_pos h3] at k ⊢)
      exact J_iret (dk okX5_rankOf 5 rfl) rfl k
    · by_cases h4 : p0 = 45
      · refine J_at h4 (J_lookup (x := 45) (off := 77) (tgt := 78) (dk okX5_rankOf 1 rfl) (by decide) (by decide) (by decide) ?_)
        refine J_iconst (v := 2) (dk okX5_rankOf 4 rfl) (by decide) ?_
        (try simp only [if_neg h2, if_neg h3, if_pos h4] at k ⊢)
        exact J_iret (dk okX5_rankOf 5 rfl) rfl k
      · by_cases h5 : p0 = 47
        · refine J_at h5 (J_lookup (x := 47) (off := 79) (tgt := 80) (dk okX5_rankOf 1 rfl) (by decide) (by decide) (by decide) ?_)
          refine J_iconst (v := 3) (dk okX5_rankOf 6 rfl) (by decide) ?_
          (try simp only [if_neg h2, if_neg h3, if_neg h4, if_pos h5] at k ⊢)
          exact J_iret (dk okX5_rankOf 7 rfl) rfl k
        · by_cases h6 : p0 = 60
          · refine J_at h6 (J_lookup (x := 60) (off := 75) (tgt := 76) (dk okX5_rankOf 1 rfl) (by decide) (by decide) (by decide) ?_)
            refine J_iconst (v := 1) (dk okX5_rankOf 2 rfl) (by decide) ?_
            (try simp only [if_neg h2, if_neg h3, if_neg h4, if_neg h5, if_pos h6] at k ⊢)
            exact J_iret (dk okX5_rankOf 3 rfl) rfl k
          · by_cases h7 : p0 = 61
            · refine J_at h7 (J_lookup (x := 61) (off := 75) (tgt := 76) (dk okX5_rankOf 1 rfl) (by decide) (by decide) (by decide) ?_)
              refine J_iconst (v := 1) (dk okX5_rankOf 2 rfl) (by decide) ?_
              (try simp only [if_neg h2, if_neg h3, if_neg h4, if_neg h5, if_neg h6, if_pos h7] at k ⊢)
              exact J_iret (dk okX5_rankOf 3 rfl) rfl k
            · by_cases h8 : p0 = 62
              · refine J_at h8 (J_lookup (x := 62) (off := 75) (tgt := 76) (dk okX5_rankOf 1 rfl) (by decide) (by decide) (by decide) ?_)
                refine J_iconst (v := 1) (dk okX5_rankOf 2 rfl) (by decide) ?_
                (try simp only [if_neg h2, if_neg h3, if_neg h4, if_neg h5, if_neg h6, if_neg h7, if_pos h8] at k ⊢)
                exact J_iret (dk okX5_rankOf 3 rfl) rfl k
              · by_cases h9 : p0 = 126
                · refine J_at h9 (J_lookup (x := 126) (off := 81) (tgt := 82) (dk okX5_rankOf 1 rfl) (by decide) (by decide) (by decide) ?_)
                  refine J_iconst (v := 4) (dk okX5_rankOf 8 rfl) (by decide) ?_
                  (try simp only [if_neg h2, if_neg h3, if_neg h4, if_neg h5, if_neg h6, if_neg h7, if_neg h8, if_pos h9] at k ⊢)
                  exact J_iret (dk okX5_rankOf 9 rfl) rfl k
                · refine J_lookup (off := 83) (tgt := 84) (dk okX5_rankOf 1 rfl) (by decide) (by show Op.lookupswitch.offset [(42, 79), (43, 77), (45, 77), (47, 79), (60, 75), (61, 75), (62, 75), (126, 81)] 83 _ = _; rw [lv_osw (k := 42) h2 (by decide), lv_osw (k := 43) h3 (by decide), lv_osw (k := 45) h4 (by decide), lv_osw (k := 47) h5 (by decide), lv_osw (k := 60) h6 (by decide), lv_osw (k := 61) h7 (by decide), lv_osw (k := 62) h8 (by decide), lv_osw (k := 126) h9 (by decide)]; rfl) (by decide) ?_
                  refine J_iconst (v := 0) (dk okX5_rankOf 10 rfl) (by decide) ?_
                  (try simp only [if_neg h2, if_neg h3, if_neg h4, if_neg h5, if_neg h6, if_neg h7, if_neg h8, if_neg h9] at k ⊢)
                  exact J_iret (dk okX5_rankOf 11 rfl) rfl k
/-- VotingFloor$Rule.takeDigit(I)Z -/
def v_X5_takeDigit (b : Nat) (p0 : Int32) (μ : Mm) : Int32 := (if (μ.1 b 8) < 1 then 0 else (if 3 ≤ (μ.1 b 8) then 0 else (if 1 ≤ (μ.1 b 1) then 1 else 0)))
def e_X5_takeDigit (b : Nat) (p0 : Int32) (μ : Mm) : Mm := (if (μ.1 b 8) < 1 then μ else (if 3 ≤ (μ.1 b 8) then μ else (if 1 ≤ (μ.1 b 1) then (let μ6 : Mm := (upI μ (b + 1) (Int32.toNatClampNeg ((μ.1 b 1) - 1)) ((10 * (μ.1 (b + 1) (Int32.toNatClampNeg ((μ.1 b 1) - 1)))) + p0)); (let μ7 : Mm := (upI μ6 b 8 ((μ6.1 b 8) + 1)); μ7)) else μ)))
def p_X5_takeDigit (b : Nat) (p0 : Int32)  (μ : Mm) : Prop := (¬ ((μ.1 b 8) < 1) → (¬ (3 ≤ (μ.1 b 8)) → (1 ≤ (μ.1 b 1) → (vp_in ((μ.1 b 1) - 1) 41) ∧ vp_in ((μ.1 b 1) - 1) 41)))
set_option maxRecDepth 20000 in
set_option maxHeartbeats 4000000 in
theorem con_X5_takeDigit {E : Ex} {Q : Option Value → Mm → Prop} {b : Nat} {p0 : Int32} {μ : Mm} (hb : RuleAt b) (t : p_X5_takeDigit b p0  μ) (k : Q (some (.int (v_X5_takeDigit b p0 μ))) (e_X5_takeDigit b p0 μ)) : Con E 1 mX5_takeDigit [rf E b, .int p0] μ Q := by
  refine Con_J (by decide +kernel) (Nat.le_of_ble_eq_true rfl) (fun G => ?_)
  unfold v_X5_takeDigit e_X5_takeDigit at k
  unfold p_X5_takeDigit at t
  refine J_sub (ls' := [(0, rf E b), (1, .int p0)]) [0, 1] rfl ?_
  refine J_aload_n (dk okX5_takeDigit 0 rfl) 0 rfl rfl ?_
  refine J_getI (dk okX5_takeDigit 1 rfl) kfX5_42 hb.1 rfl ?_
  refine J_iconst (v := 1) (dk okX5_takeDigit 2 rfl) (by decide) ?_
  refine J_icmp_lt (tgt := 24) (dk okX5_takeDigit 3 rfl) (by decide) (fun h1 => ?_) (fun h1 => ?_)
  · refine J_iconst (v := 0) (dk okX5_takeDigit 12 rfl) (by decide) ?_
    (try simp only [if_pos h1] at k ⊢)
    exact J_zret (dk okX5_takeDigit 13 rfl) rfl rfl k
  · have t := t h1
    refine J_aload_n (dk okX5_takeDigit 4 rfl) 0 rfl rfl ?_
    refine J_getI (dk okX5_takeDigit 5 rfl) kfX5_42 hb.1 rfl ?_
    refine J_iconst (v := 3) (dk okX5_takeDigit 6 rfl) (by decide) ?_
    refine J_icmp_ge (tgt := 24) (dk okX5_takeDigit 7 rfl) (by decide) (fun h2 => ?_) (fun h2 => ?_)
    · refine J_iconst (v := 0) (dk okX5_takeDigit 12 rfl) (by decide) ?_
      (try simp only [if_neg h1, if_pos h2] at k ⊢)
      exact J_zret (dk okX5_takeDigit 13 rfl) rfl rfl k
    · have t := t h2
      refine J_aload_n (dk okX5_takeDigit 8 rfl) 0 rfl rfl ?_
      refine J_getI (dk okX5_takeDigit 9 rfl) kfX5_15 hb.1 rfl ?_
      refine J_iconst (v := 1) (dk okX5_takeDigit 10 rfl) (by decide) ?_
      refine J_icmp_ge (tgt := 26) (dk okX5_takeDigit 11 rfl) (by decide) (fun h3 => ?_) (fun h3 => ?_)
      · have t := t h3
        refine J_aload_n (dk okX5_takeDigit 14 rfl) 0 rfl rfl ?_
        refine J_getR (dk okX5_takeDigit 15 rfl) kfX5_11 hb.1 rfl ?_
        refine J_aload_n (dk okX5_takeDigit 16 rfl) 0 rfl rfl ?_
        refine J_getI (dk okX5_takeDigit 17 rfl) kfX5_15 hb.1 rfl ?_
        refine J_iconst (v := 1) (dk okX5_takeDigit 18 rfl) (by decide) ?_
        refine J_isub (dk okX5_takeDigit 19 rfl) ?_
        refine J_bipush (v := 10) (dk okX5_takeDigit 20 rfl) (by decide) ?_
        refine J_aload_n (dk okX5_takeDigit 21 rfl) 0 rfl rfl ?_
        refine J_getR (dk okX5_takeDigit 22 rfl) kfX5_11 hb.1 rfl ?_
        refine J_aload_n (dk okX5_takeDigit 23 rfl) 0 rfl rfl ?_
        refine J_getI (dk okX5_takeDigit 24 rfl) kfX5_15 hb.1 rfl ?_
        refine J_iconst (v := 1) (dk okX5_takeDigit 25 rfl) (by decide) ?_
        refine J_isub (dk okX5_takeDigit 26 rfl) ?_
        obtain ⟨s4, t⟩ := t
        refine J_iald (dk okX5_takeDigit 27 rfl) hb.2.1 s4 ?_
        refine J_imul (dk okX5_takeDigit 28 rfl) ?_
        refine J_iload_n (dk okX5_takeDigit 29 rfl) 1 rfl rfl ?_
        refine J_iadd (dk okX5_takeDigit 30 rfl) ?_
        have s5 := t
        refine J_iast (dk okX5_takeDigit 31 rfl) hb.2.1 s5 ?_
        refine J_nm (fun μ6 eμ6 => ?_)
        refine J_aload_n (dk okX5_takeDigit 32 rfl) 0 rfl rfl ?_
        refine J_dup (dk okX5_takeDigit 33 rfl) rfl ?_
        refine J_getI (dk okX5_takeDigit 34 rfl) kfX5_42 hb.1 rfl ?_
        refine J_iconst (v := 1) (dk okX5_takeDigit 35 rfl) (by decide) ?_
        refine J_iadd (dk okX5_takeDigit 36 rfl) ?_
        refine J_put (dk okX5_takeDigit 37 rfl) kpX5_42 hb.1 rfl rfl rfl ?_
        refine J_nm (fun μ7 eμ7 => ?_)
        refine J_iconst (v := 1) (dk okX5_takeDigit 38 rfl) (by decide) ?_
        subst eμ7 eμ6
        (try simp only [if_neg h1, if_neg h2, if_pos h3] at k ⊢)
        exact J_zret (dk okX5_takeDigit 39 rfl) rfl rfl k
      · refine J_iconst (v := 0) (dk okX5_takeDigit 12 rfl) (by decide) ?_
        (try simp only [if_neg h1, if_neg h2, if_neg h3] at k ⊢)
        exact J_zret (dk okX5_takeDigit 13 rfl) rfl rfl k
theorem nb_X5_takeDigit (b : Nat) (p0 : Int32) (μ : Mm) : narrow .boolean (.int (v_X5_takeDigit b p0 μ)) = .int (v_X5_takeDigit b p0 μ) := by
  unfold v_X5_takeDigit; (repeat' split) <;> rfl
/-- VotingFloor$Sightings.add(III)Z -/
def v_X6_add (p0 : Int32) (p1 : Int32) (p2 : Int32) (μ : Mm) : Int32 := (if (μ.1 38 3) < 10 then 1 else 0)
def e_X6_add (p0 : Int32) (p1 : Int32) (p2 : Int32) (μ : Mm) : Mm := (if (μ.1 38 3) < 10 then (let μ3 : Mm := (upI μ 39 (Int32.toNatClampNeg (μ.1 38 3)) p0); (let μ5 : Mm := (upI μ3 40 (Int32.toNatClampNeg (μ3.1 38 3)) p1); (let μ7 : Mm := (upI μ5 41 (Int32.toNatClampNeg (μ5.1 38 3)) p2); (let μ8 : Mm := (upI μ7 38 3 ((μ7.1 38 3) + 1)); μ8)))) else μ)
def p_X6_add (p0 : Int32) (p1 : Int32) (p2 : Int32)  (μ : Mm) : Prop := ((μ.1 38 3) < 10 → (vp_in (μ.1 38 3) 10) ∧ (∀ μ3 : Mm, μ3 = (upI μ 39 (Int32.toNatClampNeg (μ.1 38 3)) p0) → (vp_in (μ3.1 38 3) 10) ∧ (∀ μ5 : Mm, μ5 = (upI μ3 40 (Int32.toNatClampNeg (μ3.1 38 3)) p1) → vp_in (μ5.1 38 3) 10)))
set_option maxRecDepth 20000 in
set_option maxHeartbeats 4000000 in
theorem con_X6_add {E : Ex} {Q : Option Value → Mm → Prop} {p0 : Int32} {p1 : Int32} {p2 : Int32} {μ : Mm} (t : p_X6_add p0 p1 p2  μ) (k : Q (some (.int (v_X6_add p0 p1 p2 μ))) (e_X6_add p0 p1 p2 μ)) : Con E 1 mX6_add [rf E 38, .int p0, .int p1, .int p2] μ Q := by
  refine Con_J (by decide +kernel) (Nat.le_of_ble_eq_true rfl) (fun G => ?_)
  unfold v_X6_add e_X6_add at k
  unfold p_X6_add at t
  refine J_sub (ls' := [(0, rf E 38), (1, .int p0), (2, .int p1), (3, .int p2)]) [0, 1, 2, 3] rfl ?_
  refine J_aload_n (dk okX6_add 0 rfl) 0 rfl rfl ?_
  refine J_getI (dk okX6_add 1 rfl) kfX6_19 ds_38 rfl ?_
  refine J_bipush (v := 10) (dk okX6_add 2 rfl) (by decide) ?_
  refine J_icmp_lt (tgt := 11) (dk okX6_add 3 rfl) (by decide) (fun h1 => ?_) (fun h1 => ?_)
  · have t := t h1
    refine J_aload_n (dk okX6_add 6 rfl) 0 rfl rfl ?_
    refine J_getR (dk okX6_add 7 rfl) kfX6_9 ds_38 rfl ?_
    refine J_aload_n (dk okX6_add 8 rfl) 0 rfl rfl ?_
    refine J_getI (dk okX6_add 9 rfl) kfX6_19 ds_38 rfl ?_
    refine J_iload_n (dk okX6_add 10 rfl) 1 rfl rfl ?_
    obtain ⟨s2, t⟩ := t
    refine J_iast (dk okX6_add 11 rfl) ds_39 s2 ?_
    refine J_nm (fun μ3 eμ3 => ?_)
    have t := t μ3 eμ3
    refine J_aload_n (dk okX6_add 12 rfl) 0 rfl rfl ?_
    refine J_getR (dk okX6_add 13 rfl) kfX6_13 ds_38 rfl ?_
    refine J_aload_n (dk okX6_add 14 rfl) 0 rfl rfl ?_
    refine J_getI (dk okX6_add 15 rfl) kfX6_19 ds_38 rfl ?_
    refine J_iload_n (dk okX6_add 16 rfl) 2 rfl rfl ?_
    obtain ⟨s4, t⟩ := t
    refine J_iast (dk okX6_add 17 rfl) ds_40 s4 ?_
    refine J_nm (fun μ5 eμ5 => ?_)
    have t := t μ5 eμ5
    refine J_aload_n (dk okX6_add 18 rfl) 0 rfl rfl ?_
    refine J_getR (dk okX6_add 19 rfl) kfX6_16 ds_38 rfl ?_
    refine J_aload_n (dk okX6_add 20 rfl) 0 rfl rfl ?_
    refine J_getI (dk okX6_add 21 rfl) kfX6_19 ds_38 rfl ?_
    refine J_iload_n (dk okX6_add 22 rfl) 3 rfl rfl ?_
    have s6 := t
    refine J_iast (dk okX6_add 23 rfl) ds_41 s6 ?_
    refine J_nm (fun μ7 eμ7 => ?_)
    refine J_aload_n (dk okX6_add 24 rfl) 0 rfl rfl ?_
    refine J_dup (dk okX6_add 25 rfl) rfl ?_
    refine J_getI (dk okX6_add 26 rfl) kfX6_19 ds_38 rfl ?_
    refine J_iconst (v := 1) (dk okX6_add 27 rfl) (by decide) ?_
    refine J_iadd (dk okX6_add 28 rfl) ?_
    refine J_put (dk okX6_add 29 rfl) kpX6_19 ds_38 rfl rfl rfl ?_
    refine J_nm (fun μ8 eμ8 => ?_)
    refine J_iconst (v := 1) (dk okX6_add 30 rfl) (by decide) ?_
    subst eμ8 eμ7 eμ5 eμ3
    (try simp only [if_pos h1] at k ⊢)
    exact J_zret (dk okX6_add 31 rfl) rfl rfl k
  · refine J_iconst (v := 0) (dk okX6_add 4 rfl) (by decide) ?_
    (try simp only [if_neg h1] at k ⊢)
    exact J_zret (dk okX6_add 5 rfl) rfl rfl k
theorem nb_X6_add (p0 : Int32) (p1 : Int32) (p2 : Int32) (μ : Mm) : narrow .boolean (.int (v_X6_add p0 p1 p2 μ)) = .int (v_X6_add p0 p1 p2 μ) := by
  unfold v_X6_add; (repeat' split) <;> rfl
/-- VotingFloor$Sums.does(IZ)Z -/
def v_X8_does (p0 : Int32) (p1 : Int32) : Int32 := (if p1 = 0 then (if p0 ≤ 0 then 0 else 1 : Int32) else (if p0 = 0 then 1 else 0 : Int32) : Int32)
set_option maxRecDepth 20000 in
set_option maxHeartbeats 4000000 in
theorem con_X8_does {E : Ex} {Q : Option Value → Mm → Prop} {p0 : Int32} {p1 : Int32} {μ : Mm} (k : Q (some (.int (v_X8_does p0 p1))) μ) : Con E 1 mX8_does [.int p0, .int p1] μ Q := by
  refine Con_J (by decide +kernel) (Nat.le_of_ble_eq_true rfl) (fun G => ?_)
  unfold v_X8_does at k
  refine J_sub (ls' := [(0, .int p0), (1, .int p1)]) [0, 1] rfl ?_
  refine J_iload_n (dk okX8_does 0 rfl) 1 rfl rfl ?_
  have K4 : J E G 1 mX8_does Q 25 [] [.int (if p1 = 0 then (if p0 ≤ 0 then 0 else 1 : Int32) else (if p0 = 0 then 1 else 0 : Int32) : Int32)] μ := by
    exact J_zret (dk okX8_does 13 rfl) rfl (by (repeat' split) <;> first | rfl | (simp only [*]; rfl)) k
  refine J_if_eq (tgt := 16) (dk okX8_does 1 rfl) (by decide) (fun h1 => ?_) (fun h1 => ?_)
  · refine J_iload_n (dk okX8_does 8 rfl) 0 rfl rfl ?_
    refine J_if_le (tgt := 24) (dk okX8_does 9 rfl) (by decide) (fun h2 => ?_) (fun h2 => ?_)
    · refine J_iconst (v := 0) (dk okX8_does 12 rfl) (by decide) ?_
      refine J_sub (ls' := []) [] rfl ?_
      (try simp only [if_pos h1, if_pos h2] at K4 ⊢); exact K4
    · refine J_iconst (v := 1) (dk okX8_does 10 rfl) (by decide) ?_
      refine J_goto (tgt := 25) (dk okX8_does 11 rfl) (by decide) ?_
      refine J_sub (ls' := []) [] rfl ?_
      (try simp only [if_pos h1, if_neg h2] at K4 ⊢); exact K4
  · refine J_iload_n (dk okX8_does 2 rfl) 0 rfl rfl ?_
    refine J_if_ne (tgt := 12) (dk okX8_does 3 rfl) (by decide) (fun h3 => ?_) (fun h3 => ?_)
    · refine J_iconst (v := 0) (dk okX8_does 6 rfl) (by decide) ?_
      refine J_goto (tgt := 25) (dk okX8_does 7 rfl) (by decide) ?_
      refine J_sub (ls' := []) [] rfl ?_
      (try simp only [if_neg h1, if_neg h3] at K4 ⊢); exact K4
    · refine J_iconst (v := 1) (dk okX8_does 4 rfl) (by decide) ?_
      refine J_goto (tgt := 25) (dk okX8_does 5 rfl) (by decide) ?_
      refine J_sub (ls' := []) [] rfl ?_
      (try simp only [if_neg h1, if_pos h3] at K4 ⊢); exact K4
theorem nb_X8_does (p0 : Int32) (p1 : Int32) : narrow .boolean (.int (v_X8_does p0 p1)) = .int (v_X8_does p0 p1) := by
  unfold v_X8_does; (repeat' split) <;> rfl
/-- VotingFloor$Sums.start(II)V -/
def e_X8_start (p0 : Int32) (p1 : Int32) (μ : Mm) : Mm := (let μ1 : Mm := (upI μ 33 1 p0); (let μ2 : Mm := (upI μ1 33 2 p1); μ2))
set_option maxRecDepth 20000 in
set_option maxHeartbeats 4000000 in
theorem con_X8_start {E : Ex} {Q : Option Value → Mm → Prop} {p0 : Int32} {p1 : Int32} {μ : Mm} (k : Q none (e_X8_start p0 p1 μ)) : Con E 1 mX8_start [rf E 33, .int p0, .int p1] μ Q := by
  refine Con_J (by decide +kernel) (Nat.le_of_ble_eq_true rfl) (fun G => ?_)
  unfold e_X8_start at k
  refine J_sub (ls' := [(0, rf E 33), (1, .int p0), (2, .int p1)]) [0, 1, 2] rfl ?_
  refine J_aload_n (dk okX8_start 0 rfl) 0 rfl rfl ?_
  refine J_iload_n (dk okX8_start 1 rfl) 1 rfl rfl ?_
  refine J_put (dk okX8_start 2 rfl) kpX8_15 ds_33 rfl rfl rfl ?_
  refine J_nm (fun μ1 eμ1 => ?_)
  refine J_aload_n (dk okX8_start 3 rfl) 0 rfl rfl ?_
  refine J_iload_n (dk okX8_start 4 rfl) 2 rfl rfl ?_
  refine J_put (dk okX8_start 5 rfl) kpX8_19 ds_33 rfl rfl rfl ?_
  refine J_nm (fun μ2 eμ2 => ?_)
  subst eμ2 eμ1
  exact J_vret (dk okX8_start 6 rfl) rfl k
/-- VotingFloor$Text.actLength(C)I -/
def v_X9_actLength (p0 : Int32) : Int32 := (if p0 = 108 then 4 else (if p0 = 109 then 1 else (if p0 = 110 then 2 else (if p0 = 111 then 2 else (if p0 = 112 then 1 else (if p0 = 113 then 1 else (if p0 = 114 then 1 else (if p0 = 115 then 3 else (if p0 = 116 then 4 else 1)))))))))
set_option maxRecDepth 20000 in
set_option maxHeartbeats 4000000 in
theorem con_X9_actLength {E : Ex} {Q : Option Value → Mm → Prop} {p0 : Int32} {μ : Mm} (k : Q (some (.int (v_X9_actLength p0))) μ) : Con E 1 mX9_actLength [.int p0] μ Q := by
  refine Con_J (by decide +kernel) (Nat.le_of_ble_eq_true rfl) (fun G => ?_)
  unfold v_X9_actLength at k
  refine J_sub (ls' := [(0, .int p0)]) [0] rfl ?_
  refine J_iload_n (dk okX9_actLength 0 rfl) 0 rfl rfl ?_
  by_cases h2 : p0 = 108
  · refine J_at h2 (J_tableIn (x := 108) (off := 55) (tgt := 56) (dk okX9_actLength 1 rfl) (by decide) (by decide) (by decide) (by decide) ?_)
    refine J_iconst (v := 4) (dk okX9_actLength 6 rfl) (by decide) ?_
    (try simp only [if_pos h2] at k ⊢)
    exact J_iret (dk okX9_actLength 7 rfl) rfl k
  · by_cases h3 : p0 = 109
    · refine J_at h3 (J_tableIn (x := 109) (off := 57) (tgt := 58) (dk okX9_actLength 1 rfl) (by decide) (by decide) (by decide) (by decide) ?_)
      refine J_iconst (v := 1) (dk okX9_actLength 8 rfl) (by decide) ?_
      (try simp only [if_neg h2, if_pos h3] at k ⊢)
      exact J_iret (dk okX9_actLength 9 rfl) rfl k
    · by_cases h4 : p0 = 110
      · refine J_at h4 (J_tableIn (x := 110) (off := 51) (tgt := 52) (dk okX9_actLength 1 rfl) (by decide) (by decide) (by decide) (by decide) ?_)
        refine J_iconst (v := 2) (dk okX9_actLength 2 rfl) (by decide) ?_
        (try simp only [if_neg h2, if_neg h3, if_pos h4] at k ⊢)
        exact J_iret (dk okX9_actLength 3 rfl) rfl k
      · by_cases h5 : p0 = 111
        · refine J_at h5 (J_tableIn (x := 111) (off := 51) (tgt := 52) (dk okX9_actLength 1 rfl) (by decide) (by decide) (by decide) (by decide) ?_)
          refine J_iconst (v := 2) (dk okX9_actLength 2 rfl) (by decide) ?_
          (try simp only [if_neg h2, if_neg h3, if_neg h4, if_pos h5] at k ⊢)
          exact J_iret (dk okX9_actLength 3 rfl) rfl k
        · by_cases h6 : p0 = 112
          · refine J_at h6 (J_tableIn (x := 112) (off := 57) (tgt := 58) (dk okX9_actLength 1 rfl) (by decide) (by decide) (by decide) (by decide) ?_)
            refine J_iconst (v := 1) (dk okX9_actLength 8 rfl) (by decide) ?_
            (try simp only [if_neg h2, if_neg h3, if_neg h4, if_neg h5, if_pos h6] at k ⊢)
            exact J_iret (dk okX9_actLength 9 rfl) rfl k
          · by_cases h7 : p0 = 113
            · refine J_at h7 (J_tableIn (x := 113) (off := 57) (tgt := 58) (dk okX9_actLength 1 rfl) (by decide) (by decide) (by decide) (by decide) ?_)
              refine J_iconst (v := 1) (dk okX9_actLength 8 rfl) (by decide) ?_
              (try simp only [if_neg h2, if_neg h3, if_neg h4, if_neg h5, if_neg h6, if_pos h7] at k ⊢)
              exact J_iret (dk okX9_actLength 9 rfl) rfl k
            · by_cases h8 : p0 = 114
              · refine J_at h8 (J_tableIn (x := 114) (off := 57) (tgt := 58) (dk okX9_actLength 1 rfl) (by decide) (by decide) (by decide) (by decide) ?_)
                refine J_iconst (v := 1) (dk okX9_actLength 8 rfl) (by decide) ?_
                (try simp only [if_neg h2, if_neg h3, if_neg h4, if_neg h5, if_neg h6, if_neg h7, if_pos h8] at k ⊢)
                exact J_iret (dk okX9_actLength 9 rfl) rfl k
              · by_cases h9 : p0 = 115
                · refine J_at h9 (J_tableIn (x := 115) (off := 53) (tgt := 54) (dk okX9_actLength 1 rfl) (by decide) (by decide) (by decide) (by decide) ?_)
                  refine J_iconst (v := 3) (dk okX9_actLength 4 rfl) (by decide) ?_
                  (try simp only [if_neg h2, if_neg h3, if_neg h4, if_neg h5, if_neg h6, if_neg h7, if_neg h8, if_pos h9] at k ⊢)
                  exact J_iret (dk okX9_actLength 5 rfl) rfl k
                · by_cases h10 : p0 = 116
                  · refine J_at h10 (J_tableIn (x := 116) (off := 55) (tgt := 56) (dk okX9_actLength 1 rfl) (by decide) (by decide) (by decide) (by decide) ?_)
                    refine J_iconst (v := 4) (dk okX9_actLength 6 rfl) (by decide) ?_
                    (try simp only [if_neg h2, if_neg h3, if_neg h4, if_neg h5, if_neg h6, if_neg h7, if_neg h8, if_neg h9, if_pos h10] at k ⊢)
                    exact J_iret (dk okX9_actLength 7 rfl) rfl k
                  · have nh2 := lv_neT (a := 108) h2 (by decide)
                    have nh3 := lv_neT (a := 109) h3 (by decide)
                    have nh4 := lv_neT (a := 110) h4 (by decide)
                    have nh5 := lv_neT (a := 111) h5 (by decide)
                    have nh6 := lv_neT (a := 112) h6 (by decide)
                    have nh7 := lv_neT (a := 113) h7 (by decide)
                    have nh8 := lv_neT (a := 114) h8 (by decide)
                    have nh9 := lv_neT (a := 115) h9 (by decide)
                    have nh10 := lv_neT (a := 116) h10 (by decide)
                    refine J_tableOut (tgt := 58) (dk okX9_actLength 1 rfl) (by omega) (by decide) ?_
                    refine J_iconst (v := 1) (dk okX9_actLength 8 rfl) (by decide) ?_
                    (try simp only [if_neg h2, if_neg h3, if_neg h4, if_neg h5, if_neg h6, if_neg h7, if_neg h8, if_neg h9, if_neg h10] at k ⊢)
                    exact J_iret (dk okX9_actLength 9 rfl) rfl k
/-- VotingFloor$Text.at(I)C -/
def v_X9_at (p0 : Int32) (μ : Mm) : Int32 := (if p0 < 0 then 0 else (if (μ.1 25 1) ≤ p0 then 0 else (μ.1 26 (Int32.toNatClampNeg p0)) : Int32) : Int32)
def p_X9_at (p0 : Int32)  (μ : Mm) : Prop := ((¬ (p0 < 0) → (¬ ((μ.1 25 1) ≤ p0) → vp_in p0 80))) ∧ narrow .char (.int (if p0 < 0 then 0 else (if (μ.1 25 1) ≤ p0 then 0 else (μ.1 26 (Int32.toNatClampNeg p0)) : Int32) : Int32)) = .int (if p0 < 0 then 0 else (if (μ.1 25 1) ≤ p0 then 0 else (μ.1 26 (Int32.toNatClampNeg p0)) : Int32) : Int32)
set_option maxRecDepth 20000 in
set_option maxHeartbeats 4000000 in
theorem con_X9_at {E : Ex} {Q : Option Value → Mm → Prop} {p0 : Int32} {μ : Mm} (t : p_X9_at p0  μ) (k : Q (some (.int (v_X9_at p0 μ))) μ) : Con E 1 mX9_at [rf E 25, .int p0] μ Q := by
  refine Con_J (by decide +kernel) (Nat.le_of_ble_eq_true rfl) (fun G => ?_)
  unfold v_X9_at at k
  unfold p_X9_at at t
  refine J_sub (ls' := [(0, rf E 25), (1, .int p0)]) [0, 1] rfl ?_
  refine J_iload_n (dk okX9_at 0 rfl) 1 rfl rfl ?_
  obtain ⟨t9, t⟩ := t
  have K4 : J E G 1 mX9_at Q 22 [] [.int (if p0 < 0 then 0 else (if (μ.1 25 1) ≤ p0 then 0 else (μ.1 26 (Int32.toNatClampNeg p0)) : Int32) : Int32)] μ := by
    have s5 := t
    exact J_zret (dk okX9_at 12 rfl) rfl s5 k
  have t := t9
  refine J_if_lt (tgt := 21) (dk okX9_at 1 rfl) (by decide) (fun h1 => ?_) (fun h1 => ?_)
  · refine J_iconst (v := 0) (dk okX9_at 11 rfl) (by decide) ?_
    refine J_sub (ls' := []) [] rfl ?_
    (try simp only [if_pos h1] at K4 ⊢); exact K4
  · have t := t h1
    refine J_iload_n (dk okX9_at 2 rfl) 1 rfl rfl ?_
    refine J_aload_n (dk okX9_at 3 rfl) 0 rfl rfl ?_
    refine J_getI (dk okX9_at 4 rfl) kfX9_15 ds_25 rfl ?_
    refine J_icmp_ge (tgt := 21) (dk okX9_at 5 rfl) (by decide) (fun h2 => ?_) (fun h2 => ?_)
    · refine J_iconst (v := 0) (dk okX9_at 11 rfl) (by decide) ?_
      refine J_sub (ls' := []) [] rfl ?_
      (try simp only [if_neg h1, if_pos h2] at K4 ⊢); exact K4
    · have t := t h2
      refine J_aload_n (dk okX9_at 6 rfl) 0 rfl rfl ?_
      refine J_getR (dk okX9_at 7 rfl) kfX9_11 ds_25 rfl ?_
      refine J_iload_n (dk okX9_at 8 rfl) 1 rfl rfl ?_
      have s3 := t
      refine J_cald (dk okX9_at 9 rfl) ds_26 s3 ?_
      refine J_goto (tgt := 22) (dk okX9_at 10 rfl) (by decide) ?_
      refine J_sub (ls' := []) [] rfl ?_
      (try simp only [if_neg h1, if_neg h2] at K4 ⊢); exact K4
/-- VotingFloor$Text.clear()V -/
def e_X9_clear  (μ : Mm) : Mm := (let μ1 : Mm := (upI μ 25 1 0); μ1)
set_option maxRecDepth 20000 in
set_option maxHeartbeats 4000000 in
theorem con_X9_clear {E : Ex} {Q : Option Value → Mm → Prop} {μ : Mm} (k : Q none (e_X9_clear  μ)) : Con E 1 mX9_clear [rf E 25] μ Q := by
  refine Con_J (by decide +kernel) (Nat.le_of_ble_eq_true rfl) (fun G => ?_)
  unfold e_X9_clear at k
  refine J_sub (ls' := [(0, rf E 25)]) [0] rfl ?_
  refine J_aload_n (dk okX9_clear 0 rfl) 0 rfl rfl ?_
  refine J_iconst (v := 0) (dk okX9_clear 1 rfl) (by decide) ?_
  refine J_put (dk okX9_clear 2 rfl) kpX9_15 ds_25 rfl rfl rfl ?_
  refine J_nm (fun μ1 eμ1 => ?_)
  subst eμ1
  exact J_vret (dk okX9_clear 3 rfl) rfl k
/-- VotingFloor$Text.cut(I)Z -/
def v_X9_cut (p0 : Int32) (μ : Mm) : Int32 := (if p0 < 0 then 0 else (if p0 ≤ (μ.1 25 1) then 1 else 0))
def e_X9_cut (p0 : Int32) (μ : Mm) : Mm := (if p0 < 0 then μ else (if p0 ≤ (μ.1 25 1) then (let μ3 : Mm := (upI μ 25 1 p0); μ3) else μ))
set_option maxRecDepth 20000 in
set_option maxHeartbeats 4000000 in
theorem con_X9_cut {E : Ex} {Q : Option Value → Mm → Prop} {p0 : Int32} {μ : Mm} (k : Q (some (.int (v_X9_cut p0 μ))) (e_X9_cut p0 μ)) : Con E 1 mX9_cut [rf E 25, .int p0] μ Q := by
  refine Con_J (by decide +kernel) (Nat.le_of_ble_eq_true rfl) (fun G => ?_)
  unfold v_X9_cut e_X9_cut at k
  refine J_sub (ls' := [(0, rf E 25), (1, .int p0)]) [0, 1] rfl ?_
  refine J_iload_n (dk okX9_cut 0 rfl) 1 rfl rfl ?_
  refine J_if_lt (tgt := 12) (dk okX9_cut 1 rfl) (by decide) (fun h1 => ?_) (fun h1 => ?_)
  · refine J_iconst (v := 0) (dk okX9_cut 6 rfl) (by decide) ?_
    (try simp only [if_pos h1] at k ⊢)
    exact J_zret (dk okX9_cut 7 rfl) rfl rfl k
  · refine J_iload_n (dk okX9_cut 2 rfl) 1 rfl rfl ?_
    refine J_aload_n (dk okX9_cut 3 rfl) 0 rfl rfl ?_
    refine J_getI (dk okX9_cut 4 rfl) kfX9_15 ds_25 rfl ?_
    refine J_icmp_le (tgt := 14) (dk okX9_cut 5 rfl) (by decide) (fun h2 => ?_) (fun h2 => ?_)
    · refine J_aload_n (dk okX9_cut 8 rfl) 0 rfl rfl ?_
      refine J_iload_n (dk okX9_cut 9 rfl) 1 rfl rfl ?_
      refine J_put (dk okX9_cut 10 rfl) kpX9_15 ds_25 rfl rfl rfl ?_
      refine J_nm (fun μ3 eμ3 => ?_)
      refine J_iconst (v := 1) (dk okX9_cut 11 rfl) (by decide) ?_
      subst eμ3
      (try simp only [if_neg h1, if_pos h2] at k ⊢)
      exact J_zret (dk okX9_cut 12 rfl) rfl rfl k
    · refine J_iconst (v := 0) (dk okX9_cut 6 rfl) (by decide) ?_
      (try simp only [if_neg h1, if_neg h2] at k ⊢)
      exact J_zret (dk okX9_cut 7 rfl) rfl rfl k
theorem nb_X9_cut (p0 : Int32) (μ : Mm) : narrow .boolean (.int (v_X9_cut p0 μ)) = .int (v_X9_cut p0 μ) := by
  unfold v_X9_cut; (repeat' split) <;> rfl
/-- VotingFloor$Text.isDigit(C)Z -/
def v_X9_isDigit (p0 : Int32) : Int32 := (if p0 < 48 then 0 else (if 57 < p0 then 0 else 1 : Int32) : Int32)
set_option maxRecDepth 20000 in
set_option maxHeartbeats 4000000 in
theorem con_X9_isDigit {E : Ex} {Q : Option Value → Mm → Prop} {p0 : Int32} {μ : Mm} (k : Q (some (.int (v_X9_isDigit p0))) μ) : Con E 1 mX9_isDigit [.int p0] μ Q := by
  refine Con_J (by decide +kernel) (Nat.le_of_ble_eq_true rfl) (fun G => ?_)
  unfold v_X9_isDigit at k
  refine J_sub (ls' := [(0, .int p0)]) [0] rfl ?_
  refine J_iload_n (dk okX9_isDigit 0 rfl) 0 rfl rfl ?_
  refine J_bipush (v := 48) (dk okX9_isDigit 1 rfl) (by decide) ?_
  have K3 : J E G 1 mX9_isDigit Q 17 [] [.int (if p0 < 48 then 0 else (if 57 < p0 then 0 else 1 : Int32) : Int32)] μ := by
    exact J_zret (dk okX9_isDigit 9 rfl) rfl (by (repeat' split) <;> first | rfl | (simp only [*]; rfl)) k
  refine J_icmp_lt (tgt := 16) (dk okX9_isDigit 2 rfl) (by decide) (fun h1 => ?_) (fun h1 => ?_)
  · refine J_iconst (v := 0) (dk okX9_isDigit 8 rfl) (by decide) ?_
    refine J_sub (ls' := []) [] rfl ?_
    (try simp only [if_pos h1] at K3 ⊢); exact K3
  · refine J_iload_n (dk okX9_isDigit 3 rfl) 0 rfl rfl ?_
    refine J_bipush (v := 57) (dk okX9_isDigit 4 rfl) (by decide) ?_
    refine J_icmp_gt (tgt := 16) (dk okX9_isDigit 5 rfl) (by decide) (fun h2 => ?_) (fun h2 => ?_)
    · refine J_iconst (v := 0) (dk okX9_isDigit 8 rfl) (by decide) ?_
      refine J_sub (ls' := []) [] rfl ?_
      (try simp only [if_neg h1, if_pos h2] at K3 ⊢); exact K3
    · refine J_iconst (v := 1) (dk okX9_isDigit 6 rfl) (by decide) ?_
      refine J_goto (tgt := 17) (dk okX9_isDigit 7 rfl) (by decide) ?_
      refine J_sub (ls' := []) [] rfl ?_
      (try simp only [if_neg h1, if_neg h2] at K3 ⊢); exact K3
theorem nb_X9_isDigit (p0 : Int32) : narrow .boolean (.int (v_X9_isDigit p0)) = .int (v_X9_isDigit p0) := by
  unfold v_X9_isDigit; (repeat' split) <;> rfl
/-- java/lang/String.checkIndex(II)V -/
def p_J0_checkIndex_df160 (p0 : Int32) (p1 : Int32)  : Prop := p_J3_checkIndex_8e157 p0 p1
set_option maxRecDepth 20000 in
set_option maxHeartbeats 4000000 in
theorem con_J0_checkIndex_df160 {E : Ex} {Q : Option Value → Mm → Prop} {p0 : Int32} {p1 : Int32} {μ : Mm} (t : p_J0_checkIndex_df160 p0 p1 ) (k : Q none μ) : Con E 2 mJ0_checkIndex_df160 [.int p0, .int p1] μ Q := by
  refine Con_J (by decide +kernel) (Nat.le_of_ble_eq_true rfl) (fun G => ?_)
  unfold p_J0_checkIndex_df160 at t
  refine J_sub (ls' := [(0, .int p0), (1, .int p1)]) [0, 1] rfl ?_
  refine J_iload_n (dk okJ0_checkIndex_df160 0 rfl) 0 rfl rfl ?_
  refine J_iload_n (dk okJ0_checkIndex_df160 1 rfl) 1 rfl rfl ?_
  refine J_getsQ (dk okJ0_checkIndex_df160 2 rfl) kfJ0_1053 (fun q1 => ?_)
  have s2 := t
  refine J_callSi (As := [.int p0, .int p1, va_rf q1]) (dk okJ0_checkIndex_df160 3 rfl) skJ3_checkIndex_8e157 lkJ0_1059 rfl rfl (Nat.le_of_ble_eq_true rfl) (by decide) (con_J3_checkIndex_8e157 s2 ⟨_, rfl, ?_⟩)
  refine J_pop (dk okJ0_checkIndex_df160 4 rfl) rfl ?_
  exact J_vret (dk okJ0_checkIndex_df160 5 rfl) rfl k
/-- java/lang/String.length()I -/
def v_J0_length_8abf5 (b : Nat) : Int32 := ((Int32.ofNat (strLen.getD b 0)) >>> ((v_J0_coder_7d493 b) &&& 31))
set_option maxRecDepth 20000 in
set_option maxHeartbeats 4000000 in
theorem con_J0_length_8abf5 {E : Ex} {Q : Option Value → Mm → Prop} {b : Nat} {μ : Mm} (hb : b < strN) (k : Q (some (.int (v_J0_length_8abf5 b))) μ) : Con E 2 mJ0_length_8abf5 [sf E b] μ Q := by
  refine Con_J (by decide +kernel) (Nat.le_of_ble_eq_true rfl) (fun G => ?_)
  unfold v_J0_length_8abf5 at k
  refine J_sub (ls' := [(0, sf E b)]) [0] rfl ?_
  refine J_aload_nS (dk okJ0_length_8abf5 0 rfl) 0 rfl rfl ?_
  refine J_getV (dk okJ0_length_8abf5 1 rfl) kfJ0_9 hb ?_
  refine J_blen (dk okJ0_length_8abf5 2 rfl) hb ?_
  refine J_aload_nS (dk okJ0_length_8abf5 3 rfl) 0 rfl rfl ?_
  refine J_callVSi (As := []) (dk okJ0_length_8abf5 4 rfl) hb vkJ0_coder_7d493 lkJ0_335 rfl rfl (Nat.le_of_ble_eq_true rfl) (by decide) (con_J0_coder_7d493 hb ⟨_, rfl, ?_⟩)
  refine J_ishr (dk okJ0_length_8abf5 5 rfl) ?_
  exact J_iret (dk okJ0_length_8abf5 6 rfl) rfl k
/-- VotingFloor.end(I)Z -/
def v_X11_end (p0 : Int32) (μ : Mm) : Int32 := (v_X9_cut p0 μ)
def e_X11_end (p0 : Int32) (μ : Mm) : Mm := (let μ1 : Mm := (e_X9_cut p0 μ); μ1)
set_option maxRecDepth 20000 in
set_option maxHeartbeats 4000000 in
theorem con_X11_end {E : Ex} {Q : Option Value → Mm → Prop} {p0 : Int32} {μ : Mm} (k : Q (some (.int (v_X11_end p0 μ))) (e_X11_end p0 μ)) : Con E 2 mX11_end [rf E 0, .int p0] μ Q := by
  refine Con_J (by decide +kernel) (Nat.le_of_ble_eq_true rfl) (fun G => ?_)
  unfold v_X11_end e_X11_end at k
  refine J_sub (ls' := [(0, rf E 0), (1, .int p0)]) [0, 1] rfl ?_
  refine J_aload_n (dk okX11_end 0 rfl) 0 rfl rfl ?_
  refine J_getR (dk okX11_end 1 rfl) kfX11_32 ds_0 rfl ?_
  refine J_iload_n (dk okX11_end 2 rfl) 1 rfl rfl ?_
  refine J_callVi (As := [.int p0]) (dk okX11_end 3 rfl) ds_25 rfl vkX9_cut lkX11_103 rfl rfl (Nat.le_of_ble_eq_true rfl) (by decide) (con_X9_cut  ⟨_, rfl, ?_⟩)
  refine J_nm (fun μ1 eμ1 => ?_)
  subst eμ1
  exact J_zret (dk okX11_end 4 rfl) rfl (nb_X9_cut _ _) k
/-- VotingFloor.entryOf(II)I -/
def v_X11_entryOf (p0 : Int32) (p1 : Int32) : Int32 := (if (if 1 < (if p0 = 0 then (Int32.toInt8 p1).toInt32 else (if p0 = 1 then (Int32.toInt16 p1).toInt32 else p1 : Int32) : Int32) then (if p0 = 0 then (Int32.toInt8 p1).toInt32 else (if p0 = 1 then (Int32.toInt16 p1).toInt32 else p1 : Int32) : Int32) else 1) < 9 then (if 1 < (if p0 = 0 then (Int32.toInt8 p1).toInt32 else (if p0 = 1 then (Int32.toInt16 p1).toInt32 else p1 : Int32) : Int32) then (if p0 = 0 then (Int32.toInt8 p1).toInt32 else (if p0 = 1 then (Int32.toInt16 p1).toInt32 else p1 : Int32) : Int32) else 1) else 9)
set_option maxRecDepth 20000 in
set_option maxHeartbeats 4000000 in
theorem con_X11_entryOf {E : Ex} {Q : Option Value → Mm → Prop} {p0 : Int32} {p1 : Int32} {μ : Mm} (k : Q (some (.int (v_X11_entryOf p0 p1))) μ) : Con E 2 mX11_entryOf [.int p0, .int p1] μ Q := by
  refine Con_J (by decide +kernel) (Nat.le_of_ble_eq_true rfl) (fun G => ?_)
  unfold v_X11_entryOf at k
  refine J_sub (ls' := [(0, .int p0), (1, .int p1)]) [0, 1] rfl ?_
  refine J_iload_n (dk okX11_entryOf 0 rfl) 0 rfl rfl ?_
  have K3 : J E G 2 mX11_entryOf Q 20 [] [.int (if p0 = 0 then (Int32.toInt8 p1).toInt32 else (if p0 = 1 then (Int32.toInt16 p1).toInt32 else p1 : Int32) : Int32)] μ := by
    refine J_istore_n (ls' := [(2, _)]) (dk okX11_entryOf 12 rfl) rfl (by decide) rfl ?_
    refine J_bipush (v := 9) (dk okX11_entryOf 13 rfl) (by decide) ?_
    refine J_iconst (v := 1) (dk okX11_entryOf 14 rfl) (by decide) ?_
    refine J_iload_n (dk okX11_entryOf 15 rfl) 0 rfl rfl ?_
    refine J_mmax (dk okX11_entryOf 16 rfl) lkX11_177 mk_max_s mk_Math mk_max_c (by decide) (Nat.le_of_ble_eq_true rfl) ?_
    refine J_mmin (dk okX11_entryOf 17 rfl) lkX11_182 mk_min_s mk_Math mk_min_c (by decide) (Nat.le_of_ble_eq_true rfl) ?_
    exact J_iret (dk okX11_entryOf 18 rfl) rfl k
  refine J_if_ne (tgt := 9) (dk okX11_entryOf 1 rfl) (by decide) (fun h1 => ?_) (fun h1 => ?_)
  · refine J_iload_n (dk okX11_entryOf 5 rfl) 0 rfl rfl ?_
    refine J_iconst (v := 1) (dk okX11_entryOf 6 rfl) (by decide) ?_
    refine J_icmp_ne (tgt := 19) (dk okX11_entryOf 7 rfl) (by decide) (fun h2 => ?_) (fun h2 => ?_)
    · refine J_iload_n (dk okX11_entryOf 11 rfl) 1 rfl rfl ?_
      refine J_sub (ls' := []) [] rfl ?_
      (try simp only [if_neg h1, if_neg h2] at K3 ⊢); exact K3
    · refine J_iload_n (dk okX11_entryOf 8 rfl) 1 rfl rfl ?_
      refine J_i2s (dk okX11_entryOf 9 rfl) ?_
      refine J_goto (tgt := 20) (dk okX11_entryOf 10 rfl) (by decide) ?_
      refine J_sub (ls' := []) [] rfl ?_
      (try simp only [if_neg h1, if_pos h2] at K3 ⊢); exact K3
  · refine J_iload_n (dk okX11_entryOf 2 rfl) 1 rfl rfl ?_
    refine J_i2b (dk okX11_entryOf 3 rfl) ?_
    refine J_goto (tgt := 20) (dk okX11_entryOf 4 rfl) (by decide) ?_
    refine J_sub (ls' := []) [] rfl ?_
    (try simp only [if_pos h1] at K3 ⊢); exact K3
/-- VotingFloor.heard(II)I -/
def v_X11_heard (p0 : Int32) (p1 : Int32) (μ : Mm) : Int32 := (if (v_X2_mayBe p0 p1) = 0 then (-1) else (let μ3 : Mm := (e_X2_add p0 p1 μ); (if (v_X2_add p0 p1 μ) = 0 then (-1) else (μ3.1 42 2) : Int32)))
def e_X11_heard (p0 : Int32) (p1 : Int32) (μ : Mm) : Mm := (if (v_X2_mayBe p0 p1) = 0 then μ else (let μ3 : Mm := (e_X2_add p0 p1 μ); μ3))
def p_X11_heard (p0 : Int32) (p1 : Int32)  (μ : Mm) : Prop := (¬ ((v_X2_mayBe p0 p1) = 0) → p_X2_add p0 p1 μ)
set_option maxRecDepth 20000 in
set_option maxHeartbeats 4000000 in
theorem con_X11_heard {E : Ex} {Q : Option Value → Mm → Prop} {p0 : Int32} {p1 : Int32} {μ : Mm} (t : p_X11_heard p0 p1  μ) (k : Q (some (.int (v_X11_heard p0 p1 μ))) (e_X11_heard p0 p1 μ)) : Con E 2 mX11_heard [rf E 0, .int p0, .int p1] μ Q := by
  refine Con_J (by decide +kernel) (Nat.le_of_ble_eq_true rfl) (fun G => ?_)
  unfold v_X11_heard e_X11_heard at k
  unfold p_X11_heard at t
  refine J_sub (ls' := [(0, rf E 0), (1, .int p0), (2, .int p1)]) [0, 1, 2] rfl ?_
  refine J_iload_n (dk okX11_heard 0 rfl) 1 rfl rfl ?_
  refine J_iload_n (dk okX11_heard 1 rfl) 2 rfl rfl ?_
  refine J_callSi (As := [.int p0, .int p1]) (dk okX11_heard 2 rfl) skX2_mayBe lkX11_355 rfl rfl (Nat.le_of_ble_eq_true rfl) (by decide) (con_X2_mayBe  ⟨_, rfl, ?_⟩)
  refine J_if_ne (tgt := 10) (dk okX11_heard 3 rfl) (by decide) (fun h1 => ?_) (fun h1 => ?_)
  · have t := t h1
    refine J_aload_n (dk okX11_heard 6 rfl) 0 rfl rfl ?_
    refine J_getR (dk okX11_heard 7 rfl) kfX11_74 ds_0 rfl ?_
    refine J_iload_n (dk okX11_heard 8 rfl) 1 rfl rfl ?_
    refine J_iload_n (dk okX11_heard 9 rfl) 2 rfl rfl ?_
    have s2 := t
    refine J_callVi (As := [.int p0, .int p1]) (dk okX11_heard 10 rfl) ds_42 rfl vkX2_add lkX11_358 rfl rfl (Nat.le_of_ble_eq_true rfl) (by decide) (con_X2_add s2 ⟨_, rfl, ?_⟩)
    refine J_nm (fun μ3 eμ3 => ?_)
    have K5 : J E G 2 mX11_heard Q 33 [] [.int (if (v_X2_add p0 p1 μ) = 0 then (-1) else (μ3.1 42 2) : Int32)] μ3 := by
      subst eμ3
      (try simp only [if_neg h1] at k ⊢)
      exact J_iret (dk okX11_heard 17 rfl) rfl k
    refine J_if_eq (tgt := 32) (dk okX11_heard 11 rfl) (by decide) (fun h4 => ?_) (fun h4 => ?_)
    · refine J_iconst (v := (-1)) (dk okX11_heard 16 rfl) (by decide) ?_
      refine J_sub (ls' := []) [] rfl ?_
      (try simp only [if_pos h4] at K5 ⊢); exact K5
    · refine J_aload_n (dk okX11_heard 12 rfl) 0 rfl rfl ?_
      refine J_getR (dk okX11_heard 13 rfl) kfX11_74 ds_0 rfl ?_
      refine J_getI (dk okX11_heard 14 rfl) kfX11_360 ds_42 rfl ?_
      refine J_goto (tgt := 33) (dk okX11_heard 15 rfl) (by decide) ?_
      refine J_sub (ls' := []) [] rfl ?_
      (try simp only [if_neg h4] at K5 ⊢); exact K5
  · refine J_iconst (v := (-1)) (dk okX11_heard 4 rfl) (by decide) ?_
    (try simp only [if_pos h1] at k ⊢)
    exact J_iret (dk okX11_heard 5 rfl) rfl k
/-- VotingFloor.seen(III)I -/
def v_X11_seen (p0 : Int32) (p1 : Int32) (p2 : Int32) (μ : Mm) : Int32 := (if (v_X1_has 1 p0 μ) = 0 then (-1) else (if p1 < 0 then (-1) else (if 20 < p1 then (-1) else (if p2 < (-9) then (-1) else (if p2 ≤ 9 then (let μ7 : Mm := (e_X6_add p0 p1 p2 μ); (if (v_X6_add p0 p1 p2 μ) = 0 then (-1) else (μ7.1 38 3) : Int32)) else (-1))))))
def e_X11_seen (p0 : Int32) (p1 : Int32) (p2 : Int32) (μ : Mm) : Mm := (if (v_X1_has 1 p0 μ) = 0 then μ else (if p1 < 0 then μ else (if 20 < p1 then μ else (if p2 < (-9) then μ else (if p2 ≤ 9 then (let μ7 : Mm := (e_X6_add p0 p1 p2 μ); μ7) else μ)))))
def p_X11_seen (p0 : Int32) (p1 : Int32) (p2 : Int32)  (μ : Mm) : Prop := (¬ ((v_X1_has 1 p0 μ) = 0) → (¬ (p1 < 0) → (¬ (20 < p1) → (¬ (p2 < (-9)) → (p2 ≤ 9 → p_X6_add p0 p1 p2 μ)))))
set_option maxRecDepth 20000 in
set_option maxHeartbeats 4000000 in
theorem con_X11_seen {E : Ex} {Q : Option Value → Mm → Prop} {p0 : Int32} {p1 : Int32} {p2 : Int32} {μ : Mm} (t : p_X11_seen p0 p1 p2  μ) (k : Q (some (.int (v_X11_seen p0 p1 p2 μ))) (e_X11_seen p0 p1 p2 μ)) : Con E 2 mX11_seen [rf E 0, .int p0, .int p1, .int p2] μ Q := by
  refine Con_J (by decide +kernel) (Nat.le_of_ble_eq_true rfl) (fun G => ?_)
  unfold v_X11_seen e_X11_seen at k
  unfold p_X11_seen at t
  refine J_sub (ls' := [(0, rf E 0), (1, .int p0), (2, .int p1), (3, .int p2)]) [0, 1, 2, 3] rfl ?_
  refine J_aload_n (dk okX11_seen 0 rfl) 0 rfl rfl ?_
  refine J_getR (dk okX11_seen 1 rfl) kfX11_12 ds_0 rfl ?_
  refine J_iload_n (dk okX11_seen 2 rfl) 1 rfl rfl ?_
  refine J_callVi (As := [.int p0]) (dk okX11_seen 3 rfl) ds_1 rfl vkX1_has lkX11_138 rfl rfl (Nat.le_of_ble_eq_true rfl) (by decide) (con_X1_has FloorAt_1 ⟨_, rfl, ?_⟩)
  refine J_if_eq (tgt := 33) (dk okX11_seen 4 rfl) (by decide) (fun h1 => ?_) (fun h1 => ?_)
  · refine J_iconst (v := (-1)) (dk okX11_seen 16 rfl) (by decide) ?_
    (try simp only [if_pos h1] at k ⊢)
    exact J_iret (dk okX11_seen 17 rfl) rfl k
  · have t := t h1
    refine J_iload_n (dk okX11_seen 5 rfl) 2 rfl rfl ?_
    refine J_if_lt (tgt := 33) (dk okX11_seen 6 rfl) (by decide) (fun h2 => ?_) (fun h2 => ?_)
    · refine J_iconst (v := (-1)) (dk okX11_seen 16 rfl) (by decide) ?_
      (try simp only [if_neg h1, if_pos h2] at k ⊢)
      exact J_iret (dk okX11_seen 17 rfl) rfl k
    · have t := t h2
      refine J_iload_n (dk okX11_seen 7 rfl) 2 rfl rfl ?_
      refine J_bipush (v := 20) (dk okX11_seen 8 rfl) (by decide) ?_
      refine J_icmp_gt (tgt := 33) (dk okX11_seen 9 rfl) (by decide) (fun h3 => ?_) (fun h3 => ?_)
      · refine J_iconst (v := (-1)) (dk okX11_seen 16 rfl) (by decide) ?_
        (try simp only [if_neg h1, if_neg h2, if_pos h3] at k ⊢)
        exact J_iret (dk okX11_seen 17 rfl) rfl k
      · have t := t h3
        refine J_iload_n (dk okX11_seen 10 rfl) 3 rfl rfl ?_
        refine J_bipush (v := (-9)) (dk okX11_seen 11 rfl) (by decide) ?_
        refine J_icmp_lt (tgt := 33) (dk okX11_seen 12 rfl) (by decide) (fun h4 => ?_) (fun h4 => ?_)
        · refine J_iconst (v := (-1)) (dk okX11_seen 16 rfl) (by decide) ?_
          (try simp only [if_neg h1, if_neg h2, if_neg h3, if_pos h4] at k ⊢)
          exact J_iret (dk okX11_seen 17 rfl) rfl k
        · have t := t h4
          refine J_iload_n (dk okX11_seen 13 rfl) 3 rfl rfl ?_
          refine J_bipush (v := 9) (dk okX11_seen 14 rfl) (by decide) ?_
          refine J_icmp_le (tgt := 35) (dk okX11_seen 15 rfl) (by decide) (fun h5 => ?_) (fun h5 => ?_)
          · have t := t h5
            refine J_aload_n (dk okX11_seen 18 rfl) 0 rfl rfl ?_
            refine J_getR (dk okX11_seen 19 rfl) kfX11_67 ds_0 rfl ?_
            refine J_iload_n (dk okX11_seen 20 rfl) 1 rfl rfl ?_
            refine J_iload_n (dk okX11_seen 21 rfl) 2 rfl rfl ?_
            refine J_iload_n (dk okX11_seen 22 rfl) 3 rfl rfl ?_
            have s6 := t
            refine J_callVi (As := [.int p0, .int p1, .int p2]) (dk okX11_seen 23 rfl) ds_38 rfl vkX6_add lkX11_332 rfl rfl (Nat.le_of_ble_eq_true rfl) (by decide) (con_X6_add s6 ⟨_, rfl, ?_⟩)
            refine J_nm (fun μ7 eμ7 => ?_)
            have K9 : J E G 2 mX11_seen Q 59 [] [.int (if (v_X6_add p0 p1 p2 μ) = 0 then (-1) else (μ7.1 38 3) : Int32)] μ7 := by
              subst eμ7
              (try simp only [if_neg h1, if_neg h2, if_neg h3, if_neg h4, if_pos h5] at k ⊢)
              exact J_iret (dk okX11_seen 30 rfl) rfl k
            refine J_if_eq (tgt := 58) (dk okX11_seen 24 rfl) (by decide) (fun h8 => ?_) (fun h8 => ?_)
            · refine J_iconst (v := (-1)) (dk okX11_seen 29 rfl) (by decide) ?_
              refine J_sub (ls' := []) [] rfl ?_
              (try simp only [if_pos h8] at K9 ⊢); exact K9
            · refine J_aload_n (dk okX11_seen 25 rfl) 0 rfl rfl ?_
              refine J_getR (dk okX11_seen 26 rfl) kfX11_67 ds_0 rfl ?_
              refine J_getI (dk okX11_seen 27 rfl) kfX11_335 ds_38 rfl ?_
              refine J_goto (tgt := 59) (dk okX11_seen 28 rfl) (by decide) ?_
              refine J_sub (ls' := []) [] rfl ?_
              (try simp only [if_neg h8] at K9 ⊢); exact K9
          · refine J_iconst (v := (-1)) (dk okX11_seen 16 rfl) (by decide) ?_
            (try simp only [if_neg h1, if_neg h2, if_neg h3, if_neg h4, if_neg h5] at k ⊢)
            exact J_iret (dk okX11_seen 17 rfl) rfl k
/-- VotingFloorModel.begins(I)I -/
def v_X12_begins (p0 : Int32) (μ : Mm) : Int32 := (μ.1 49 9)
def e_X12_begins (p0 : Int32) (μ : Mm) : Mm := (let μ1 : Mm := (upI μ 49 9 0); (let μ2 : Mm := (upI μ1 49 10 0); (let μ3 : Mm := (upI μ2 49 12 0); (let μ4 : Mm := (upI μ3 49 11 (if p0 < (μ.1 49 9) then p0 else (μ.1 49 9))); μ4))))
set_option maxRecDepth 20000 in
set_option maxHeartbeats 4000000 in
theorem con_X12_begins {E : Ex} {Q : Option Value → Mm → Prop} {p0 : Int32} {μ : Mm} (k : Q (some (.int (v_X12_begins p0 μ))) (e_X12_begins p0 μ)) : Con E 2 mX12_begins [rf E 49, .int p0] μ Q := by
  refine Con_J (by decide +kernel) (Nat.le_of_ble_eq_true rfl) (fun G => ?_)
  unfold v_X12_begins e_X12_begins at k
  refine J_sub (ls' := [(0, rf E 49), (1, .int p0)]) [0, 1] rfl ?_
  refine J_aload_n (dk okX12_begins 0 rfl) 0 rfl rfl ?_
  refine J_getI (dk okX12_begins 1 rfl) kfX12_141 ds_49 rfl ?_
  refine J_istore_n (ls' := [(2, _), (0, _), (1, _)]) (dk okX12_begins 2 rfl) rfl (by decide) rfl ?_
  refine J_aload_n (dk okX12_begins 3 rfl) 1 rfl rfl ?_
  refine J_iconst (v := 0) (dk okX12_begins 4 rfl) (by decide) ?_
  refine J_put (dk okX12_begins 5 rfl) kpX12_141 ds_49 rfl rfl rfl ?_
  refine J_nm (fun μ1 eμ1 => ?_)
  refine J_aload_n (dk okX12_begins 6 rfl) 1 rfl rfl ?_
  refine J_iconst (v := 0) (dk okX12_begins 7 rfl) (by decide) ?_
  refine J_put (dk okX12_begins 8 rfl) kpX12_144 ds_49 rfl rfl rfl ?_
  refine J_nm (fun μ2 eμ2 => ?_)
  refine J_aload_n (dk okX12_begins 9 rfl) 1 rfl rfl ?_
  refine J_iconst (v := 0) (dk okX12_begins 10 rfl) (by decide) ?_
  refine J_put (dk okX12_begins 11 rfl) kpX12_147 ds_49 rfl rfl rfl ?_
  refine J_nm (fun μ3 eμ3 => ?_)
  refine J_aload_n (dk okX12_begins 12 rfl) 1 rfl rfl ?_
  refine J_iload_n (dk okX12_begins 13 rfl) 0 rfl rfl ?_
  refine J_iload_n (dk okX12_begins 14 rfl) 2 rfl rfl ?_
  refine J_mmin (dk okX12_begins 15 rfl) lkX12_150 mk_min_s mk_Math mk_min_c (by decide) (Nat.le_of_ble_eq_true rfl) ?_
  refine J_put (dk okX12_begins 16 rfl) kpX12_156 ds_49 rfl rfl rfl ?_
  refine J_nm (fun μ4 eμ4 => ?_)
  refine J_iload_n (dk okX12_begins 17 rfl) 0 rfl rfl ?_
  subst eμ4 eμ3 eμ2 eμ1
  exact J_iret (dk okX12_begins 18 rfl) rfl k
/-- VotingFloorModel.digitIn(II)I -/
def v_X12_digitIn (p0 : Int32) (p1 : Int32) (μ : Mm) : Int32 := (if (μ.1 49 11) ≤ (μ.1 49 10) then (-1) else (if (v_X12_in (Int32.toInt64 ((μ.1 54 (Int32.toNatClampNeg (μ.1 49 10))) - 48)) (Int32.toInt64 p0) (Int32.toInt64 p1)) = 0 then (-1) else (let μ4 : Mm := (upI μ 49 10 ((μ.1 49 10) + 1)); ((μ4.1 54 (Int32.toNatClampNeg ((μ4.1 49 10) - 1))) - 48))))
def e_X12_digitIn (p0 : Int32) (p1 : Int32) (μ : Mm) : Mm := (if (μ.1 49 11) ≤ (μ.1 49 10) then μ else (if (v_X12_in (Int32.toInt64 ((μ.1 54 (Int32.toNatClampNeg (μ.1 49 10))) - 48)) (Int32.toInt64 p0) (Int32.toInt64 p1)) = 0 then μ else (let μ4 : Mm := (upI μ 49 10 ((μ.1 49 10) + 1)); μ4)))
def p_X12_digitIn (p0 : Int32) (p1 : Int32)  (μ : Mm) : Prop := (¬ ((μ.1 49 11) ≤ (μ.1 49 10)) → (vp_in (μ.1 49 10) 80) ∧ (¬ ((v_X12_in (Int32.toInt64 ((μ.1 54 (Int32.toNatClampNeg (μ.1 49 10))) - 48)) (Int32.toInt64 p0) (Int32.toInt64 p1)) = 0) → (∀ μ4 : Mm, μ4 = (upI μ 49 10 ((μ.1 49 10) + 1)) → vp_in ((μ4.1 49 10) - 1) 80)))
set_option maxRecDepth 20000 in
set_option maxHeartbeats 4000000 in
theorem con_X12_digitIn {E : Ex} {Q : Option Value → Mm → Prop} {p0 : Int32} {p1 : Int32} {μ : Mm} (t : p_X12_digitIn p0 p1  μ) (k : Q (some (.int (v_X12_digitIn p0 p1 μ))) (e_X12_digitIn p0 p1 μ)) : Con E 2 mX12_digitIn [rf E 49, .int p0, .int p1] μ Q := by
  refine Con_J (by decide +kernel) (Nat.le_of_ble_eq_true rfl) (fun G => ?_)
  unfold v_X12_digitIn e_X12_digitIn at k
  unfold p_X12_digitIn at t
  refine J_sub (ls' := [(0, rf E 49), (1, .int p0), (2, .int p1)]) [0, 1, 2] rfl ?_
  refine J_aload_n (dk okX12_digitIn 0 rfl) 0 rfl rfl ?_
  refine J_getI (dk okX12_digitIn 1 rfl) kfX12_144 ds_49 rfl ?_
  refine J_aload_n (dk okX12_digitIn 2 rfl) 0 rfl rfl ?_
  refine J_getI (dk okX12_digitIn 3 rfl) kfX12_156 ds_49 rfl ?_
  refine J_icmp_ge (tgt := 34) (dk okX12_digitIn 4 rfl) (by decide) (fun h1 => ?_) (fun h1 => ?_)
  · refine J_iconst (v := (-1)) (dk okX12_digitIn 19 rfl) (by decide) ?_
    (try simp only [if_pos h1] at k ⊢)
    exact J_iret (dk okX12_digitIn 20 rfl) rfl k
  · have t := t h1
    refine J_aload_n (dk okX12_digitIn 5 rfl) 0 rfl rfl ?_
    refine J_getR (dk okX12_digitIn 6 rfl) kfX12_38 ds_49 rfl ?_
    refine J_aload_n (dk okX12_digitIn 7 rfl) 0 rfl rfl ?_
    refine J_getI (dk okX12_digitIn 8 rfl) kfX12_144 ds_49 rfl ?_
    obtain ⟨s2, t⟩ := t
    refine J_iald (dk okX12_digitIn 9 rfl) ds_54 s2 ?_
    refine J_bipush (v := 48) (dk okX12_digitIn 10 rfl) (by decide) ?_
    refine J_isub (dk okX12_digitIn 11 rfl) ?_
    refine J_i2l (dk okX12_digitIn 12 rfl) ?_
    refine J_iload_n (dk okX12_digitIn 13 rfl) 1 rfl rfl ?_
    refine J_i2l (dk okX12_digitIn 14 rfl) ?_
    refine J_iload_n (dk okX12_digitIn 15 rfl) 2 rfl rfl ?_
    refine J_i2l (dk okX12_digitIn 16 rfl) ?_
    refine J_callSi (As := [.long (Int32.toInt64 ((μ.1 54 (Int32.toNatClampNeg (μ.1 49 10))) - 48)), .long (Int32.toInt64 p0), .long (Int32.toInt64 p1)]) (dk okX12_digitIn 17 rfl) skX12_in lkX12_114 rfl rfl (Nat.le_of_ble_eq_true rfl) (by decide) (con_X12_in  ⟨_, rfl, ?_⟩)
    refine J_if_ne (tgt := 36) (dk okX12_digitIn 18 rfl) (by decide) (fun h3 => ?_) (fun h3 => ?_)
    · have t := t h3
      refine J_aload_n (dk okX12_digitIn 21 rfl) 0 rfl rfl ?_
      refine J_dup (dk okX12_digitIn 22 rfl) rfl ?_
      refine J_getI (dk okX12_digitIn 23 rfl) kfX12_144 ds_49 rfl ?_
      refine J_iconst (v := 1) (dk okX12_digitIn 24 rfl) (by decide) ?_
      refine J_iadd (dk okX12_digitIn 25 rfl) ?_
      refine J_put (dk okX12_digitIn 26 rfl) kpX12_144 ds_49 rfl rfl rfl ?_
      refine J_nm (fun μ4 eμ4 => ?_)
      have t := t μ4 eμ4
      refine J_aload_n (dk okX12_digitIn 27 rfl) 0 rfl rfl ?_
      refine J_getR (dk okX12_digitIn 28 rfl) kfX12_38 ds_49 rfl ?_
      refine J_aload_n (dk okX12_digitIn 29 rfl) 0 rfl rfl ?_
      refine J_getI (dk okX12_digitIn 30 rfl) kfX12_144 ds_49 rfl ?_
      refine J_iconst (v := 1) (dk okX12_digitIn 31 rfl) (by decide) ?_
      refine J_isub (dk okX12_digitIn 32 rfl) ?_
      have s5 := t
      refine J_iald (dk okX12_digitIn 33 rfl) ds_54 s5 ?_
      refine J_bipush (v := 48) (dk okX12_digitIn 34 rfl) (by decide) ?_
      refine J_isub (dk okX12_digitIn 35 rfl) ?_
      subst eμ4
      (try simp only [if_neg h1, if_neg h3] at k ⊢)
      exact J_iret (dk okX12_digitIn 36 rfl) rfl k
    · refine J_iconst (v := (-1)) (dk okX12_digitIn 19 rfl) (by decide) ?_
      (try simp only [if_neg h1, if_pos h3] at k ⊢)
      exact J_iret (dk okX12_digitIn 20 rfl) rfl k
/-- VotingFloorModel.end(I)Z -/
def v_X12_end (p0 : Int32) (μ : Mm) : Int32 := (let μ1 : Mm := (upI μ 49 0 0); (if (v_X12_in (Int32.toInt64 p0) 0 (Int32.toInt64 (μ1.1 49 9))) = 0 then 0 else 1))
def e_X12_end (p0 : Int32) (μ : Mm) : Mm := (let μ1 : Mm := (upI μ 49 0 0); (if (v_X12_in (Int32.toInt64 p0) 0 (Int32.toInt64 (μ1.1 49 9))) = 0 then μ1 else (let μ3 : Mm := (upI μ1 49 9 p0); μ3)))
set_option maxRecDepth 20000 in
set_option maxHeartbeats 4000000 in
theorem con_X12_end {E : Ex} {Q : Option Value → Mm → Prop} {p0 : Int32} {μ : Mm} (k : Q (some (.int (v_X12_end p0 μ))) (e_X12_end p0 μ)) : Con E 2 mX12_end [rf E 49, .int p0] μ Q := by
  refine Con_J (by decide +kernel) (Nat.le_of_ble_eq_true rfl) (fun G => ?_)
  unfold v_X12_end e_X12_end at k
  refine J_sub (ls' := [(0, rf E 49), (1, .int p0)]) [0, 1] rfl ?_
  refine J_aload_n (dk okX12_end 0 rfl) 0 rfl rfl ?_
  refine J_iconst (v := 0) (dk okX12_end 1 rfl) (by decide) ?_
  refine J_put (dk okX12_end 2 rfl) kpX12_3 ds_49 rfl rfl rfl ?_
  refine J_nm (fun μ1 eμ1 => ?_)
  refine J_iload_n (dk okX12_end 3 rfl) 1 rfl rfl ?_
  refine J_i2l (dk okX12_end 4 rfl) ?_
  refine J_lconst (v := 0) (dk okX12_end 5 rfl) (by decide) ?_
  refine J_aload_n (dk okX12_end 6 rfl) 0 rfl rfl ?_
  refine J_getI (dk okX12_end 7 rfl) kfX12_141 ds_49 rfl ?_
  refine J_i2l (dk okX12_end 8 rfl) ?_
  refine J_callSi (As := [.long (Int32.toInt64 p0), .long 0, .long (Int32.toInt64 (μ1.1 49 9))]) (dk okX12_end 9 rfl) skX12_in lkX12_114 rfl rfl (Nat.le_of_ble_eq_true rfl) (by decide) (con_X12_in  ⟨_, rfl, ?_⟩)
  refine J_if_ne (tgt := 21) (dk okX12_end 10 rfl) (by decide) (fun h2 => ?_) (fun h2 => ?_)
  · refine J_aload_n (dk okX12_end 13 rfl) 0 rfl rfl ?_
    refine J_iload_n (dk okX12_end 14 rfl) 1 rfl rfl ?_
    refine J_put (dk okX12_end 15 rfl) kpX12_141 ds_49 rfl rfl rfl ?_
    refine J_nm (fun μ3 eμ3 => ?_)
    refine J_iconst (v := 1) (dk okX12_end 16 rfl) (by decide) ?_
    subst eμ3 eμ1
    (try simp only [if_neg h2] at k ⊢)
    exact J_zret (dk okX12_end 17 rfl) rfl rfl k
  · refine J_iconst (v := 0) (dk okX12_end 11 rfl) (by decide) ?_
    subst eμ1
    (try simp only [if_pos h2] at k ⊢)
    exact J_zret (dk okX12_end 12 rfl) rfl rfl k
/-- VotingFloorModel.entersFewest(I)I -/
def v_X12_entersFewest (p0 : Int32) : Int32 := (if 0 ≤ p0 then (v_J6_bitCount_0f7a4 p0) else (-2))
def e_X12_entersFewest (p0 : Int32) (μ : Mm) : Mm := (if 0 ≤ p0 then (let μ2 : Mm := (upI μ 49 1 0); (let μ4 : Mm := (e_X12_enters (Int32.toInt64 p0) μ2); μ4)) else μ)
def p_X12_entersFewest (p0 : Int32)  (μ : Mm) : Prop := (0 ≤ p0 → (∀ μ2 : Mm, μ2 = (upI μ 49 1 0) → p_X12_enters (Int32.toInt64 p0) μ2))
set_option maxRecDepth 20000 in
set_option maxHeartbeats 4000000 in
theorem con_X12_entersFewest {E : Ex} {Q : Option Value → Mm → Prop} {p0 : Int32} {μ : Mm} (t : p_X12_entersFewest p0  μ) (k : Q (some (.int (v_X12_entersFewest p0))) (e_X12_entersFewest p0 μ)) : Con E 2 mX12_entersFewest [rf E 49, .int p0] μ Q := by
  refine Con_J (by decide +kernel) (Nat.le_of_ble_eq_true rfl) (fun G => ?_)
  unfold v_X12_entersFewest e_X12_entersFewest at k
  unfold p_X12_entersFewest at t
  refine J_sub (ls' := [(0, rf E 49), (1, .int p0)]) [0, 1] rfl ?_
  refine J_iload_n (dk okX12_entersFewest 0 rfl) 1 rfl rfl ?_
  refine J_if_ge (tgt := 7) (dk okX12_entersFewest 1 rfl) (by decide) (fun h1 => ?_) (fun h1 => ?_)
  · have t := t h1
    refine J_aload_n (dk okX12_entersFewest 4 rfl) 0 rfl rfl ?_
    refine J_iconst (v := 0) (dk okX12_entersFewest 5 rfl) (by decide) ?_
    refine J_put (dk okX12_entersFewest 6 rfl) kpX12_15 ds_49 rfl rfl rfl ?_
    refine J_nm (fun μ2 eμ2 => ?_)
    have t := t μ2 eμ2
    refine J_aload_n (dk okX12_entersFewest 7 rfl) 0 rfl rfl ?_
    refine J_iload_n (dk okX12_entersFewest 8 rfl) 1 rfl rfl ?_
    refine J_i2l (dk okX12_entersFewest 9 rfl) ?_
    have s3 := t
    refine J_callVv (As := [.long (Int32.toInt64 p0)]) (dk okX12_entersFewest 10 rfl) ds_49 rfl vkX12_enters lkX12_18 rfl rfl (Nat.le_of_ble_eq_true rfl) (by decide) (con_X12_enters s3 ⟨rfl, ?_⟩)
    refine J_nm (fun μ4 eμ4 => ?_)
    refine J_iload_n (dk okX12_entersFewest 11 rfl) 1 rfl rfl ?_
    refine J_callSi (As := [.int p0]) (dk okX12_entersFewest 12 rfl) skJ6_bitCount_0f7a4 lkX12_299 rfl rfl (Nat.le_of_ble_eq_true rfl) (by decide) (con_J6_bitCount_0f7a4  ⟨_, rfl, ?_⟩)
    subst eμ4 eμ2
    (try simp only [if_pos h1] at k ⊢)
    exact J_iret (dk okX12_entersFewest 13 rfl) rfl k
  · refine J_bipush (v := (-2)) (dk okX12_entersFewest 2 rfl) (by decide) ?_
    (try simp only [if_neg h1] at k ⊢)
    exact J_iret (dk okX12_entersFewest 3 rfl) rfl k
/-- VotingFloorModel.force(I)I -/
def v_X12_force (p0 : Int32) (μ : Mm) : Int32 := ((v_X12_load 52 p0 μ) * (if 0 ≤ (μ.1 52 (Int32.toNatClampNeg p0)) then (μ.1 52 (Int32.toNatClampNeg p0)) else 0 - (μ.1 52 (Int32.toNatClampNeg p0))))
def p_X12_force (p0 : Int32)  : Prop := (p_X12_load 52 p0) ∧ vp_in p0 24
set_option maxRecDepth 20000 in
set_option maxHeartbeats 4000000 in
theorem con_X12_force {E : Ex} {Q : Option Value → Mm → Prop} {p0 : Int32} {μ : Mm} (t : p_X12_force p0 ) (k : Q (some (.int (v_X12_force p0 μ))) μ) : Con E 2 mX12_force [rf E 49, .int p0] μ Q := by
  refine Con_J (by decide +kernel) (Nat.le_of_ble_eq_true rfl) (fun G => ?_)
  unfold v_X12_force at k
  unfold p_X12_force at t
  refine J_sub (ls' := [(0, rf E 49), (1, .int p0)]) [0, 1] rfl ?_
  refine J_aload_n (dk okX12_force 0 rfl) 0 rfl rfl ?_
  refine J_aload_n (dk okX12_force 1 rfl) 0 rfl rfl ?_
  refine J_getR (dk okX12_force 2 rfl) kfX12_32 ds_49 rfl ?_
  refine J_iload_n (dk okX12_force 3 rfl) 1 rfl rfl ?_
  obtain ⟨s1, t⟩ := t
  refine J_callVi (As := [rf E 52, .int p0]) (dk okX12_force 4 rfl) ds_49 rfl vkX12_load lkX12_130 rfl rfl (Nat.le_of_ble_eq_true rfl) (by decide) (con_X12_load ds_52 s1 ⟨_, rfl, ?_⟩)
  refine J_aload_n (dk okX12_force 5 rfl) 0 rfl rfl ?_
  refine J_getR (dk okX12_force 6 rfl) kfX12_32 ds_49 rfl ?_
  refine J_iload_n (dk okX12_force 7 rfl) 1 rfl rfl ?_
  have s2 := t
  refine J_iald (dk okX12_force 8 rfl) ds_52 s2 ?_
  refine J_mabs (dk okX12_force 9 rfl) lkX12_293 mk_abs_s mk_Math mk_abs_c (by decide) (Nat.le_of_ble_eq_true rfl) ?_
  refine J_imul (dk okX12_force 10 rfl) ?_
  exact J_iret (dk okX12_force 11 rfl) rfl k
/-- VotingFloorModel.here([I)I -/
def v_X12_here (p0 : Nat) (μ : Mm) : Int32 := ((v_X12_all  μ) &&& ((μ.1 p0 (Int32.toNatClampNeg 21)) ^^^ (-1)))
set_option maxRecDepth 20000 in
set_option maxHeartbeats 4000000 in
theorem con_X12_here {E : Ex} {Q : Option Value → Mm → Prop} {p0 : Nat} {μ : Mm} (hp0 : dscL[p0]? = some (.inr (.inl (1, 24)))) (k : Q (some (.int (v_X12_here p0 μ))) μ) : Con E 2 mX12_here [rf E 49, rf E p0] μ Q := by
  refine Con_J (by decide +kernel) (Nat.le_of_ble_eq_true rfl) (fun G => ?_)
  unfold v_X12_here at k
  refine J_sub (ls' := [(0, rf E 49), (1, rf E p0)]) [0, 1] rfl ?_
  refine J_aload_n (dk okX12_here 0 rfl) 0 rfl rfl ?_
  refine J_callVi (As := []) (dk okX12_here 1 rfl) ds_49 rfl vkX12_all lkX12_118 rfl rfl (Nat.le_of_ble_eq_true rfl) (by decide) (con_X12_all  ⟨_, rfl, ?_⟩)
  refine J_aload_n (dk okX12_here 2 rfl) 1 rfl rfl ?_
  refine J_bipush (v := 21) (dk okX12_here 3 rfl) (by decide) ?_
  refine J_iald (dk okX12_here 4 rfl) hp0 (by unfold vp_in; decide) ?_
  refine J_iconst (v := (-1)) (dk okX12_here 5 rfl) (by decide) ?_
  refine J_ixor (dk okX12_here 6 rfl) ?_
  refine J_iand (dk okX12_here 7 rfl) ?_
  exact J_iret (dk okX12_here 8 rfl) rfl k
/-- VotingFloorModel.isDigit()Z -/
def v_X12_isDigit  (μ : Mm) : Int32 := (if (μ.1 49 11) ≤ (μ.1 49 10) then 0 else (if (v_X12_in (Int32.toInt64 (μ.1 54 (Int32.toNatClampNeg (μ.1 49 10)))) 48 57) = 0 then 0 else 1 : Int32) : Int32)
def p_X12_isDigit   (μ : Mm) : Prop := (¬ ((μ.1 49 11) ≤ (μ.1 49 10)) → vp_in (μ.1 49 10) 80)
set_option maxRecDepth 20000 in
set_option maxHeartbeats 4000000 in
theorem con_X12_isDigit {E : Ex} {Q : Option Value → Mm → Prop} {μ : Mm} (t : p_X12_isDigit   μ) (k : Q (some (.int (v_X12_isDigit  μ))) μ) : Con E 2 mX12_isDigit [rf E 49] μ Q := by
  refine Con_J (by decide +kernel) (Nat.le_of_ble_eq_true rfl) (fun G => ?_)
  unfold v_X12_isDigit at k
  unfold p_X12_isDigit at t
  refine J_sub (ls' := [(0, rf E 49)]) [0] rfl ?_
  refine J_aload_n (dk okX12_isDigit 0 rfl) 0 rfl rfl ?_
  refine J_getI (dk okX12_isDigit 1 rfl) kfX12_144 ds_49 rfl ?_
  refine J_aload_n (dk okX12_isDigit 2 rfl) 0 rfl rfl ?_
  refine J_getI (dk okX12_isDigit 3 rfl) kfX12_156 ds_49 rfl ?_
  have K4 : J E G 2 mX12_isDigit Q 38 [] [.int (if (μ.1 49 11) ≤ (μ.1 49 10) then 0 else (if (v_X12_in (Int32.toInt64 (μ.1 54 (Int32.toNatClampNeg (μ.1 49 10)))) 48 57) = 0 then 0 else 1 : Int32) : Int32)] μ := by
    exact J_zret (dk okX12_isDigit 18 rfl) rfl (by (repeat' split) <;> first | rfl | (simp only [*]; rfl)) k
  refine J_icmp_ge (tgt := 37) (dk okX12_isDigit 4 rfl) (by decide) (fun h1 => ?_) (fun h1 => ?_)
  · refine J_iconst (v := 0) (dk okX12_isDigit 17 rfl) (by decide) ?_
    refine J_sub (ls' := []) [] rfl ?_
    (try simp only [if_pos h1] at K4 ⊢); exact K4
  · have t := t h1
    refine J_aload_n (dk okX12_isDigit 5 rfl) 0 rfl rfl ?_
    refine J_getR (dk okX12_isDigit 6 rfl) kfX12_38 ds_49 rfl ?_
    refine J_aload_n (dk okX12_isDigit 7 rfl) 0 rfl rfl ?_
    refine J_getI (dk okX12_isDigit 8 rfl) kfX12_144 ds_49 rfl ?_
    have s2 := t
    refine J_iald (dk okX12_isDigit 9 rfl) ds_54 s2 ?_
    refine J_i2l (dk okX12_isDigit 10 rfl) ?_
    refine J_ldc2 (v := 48) (dk okX12_isDigit 11 rfl) kcX12_159 ?_
    refine J_ldc2 (v := 57) (dk okX12_isDigit 12 rfl) kcX12_161 ?_
    refine J_callSi (As := [.long (Int32.toInt64 (μ.1 54 (Int32.toNatClampNeg (μ.1 49 10)))), .long 48, .long 57]) (dk okX12_isDigit 13 rfl) skX12_in lkX12_114 rfl rfl (Nat.le_of_ble_eq_true rfl) (by decide) (con_X12_in  ⟨_, rfl, ?_⟩)
    refine J_if_eq (tgt := 37) (dk okX12_isDigit 14 rfl) (by decide) (fun h3 => ?_) (fun h3 => ?_)
    · refine J_iconst (v := 0) (dk okX12_isDigit 17 rfl) (by decide) ?_
      refine J_sub (ls' := []) [] rfl ?_
      (try simp only [if_neg h1, if_pos h3] at K4 ⊢); exact K4
    · refine J_iconst (v := 1) (dk okX12_isDigit 15 rfl) (by decide) ?_
      refine J_goto (tgt := 38) (dk okX12_isDigit 16 rfl) (by decide) ?_
      refine J_sub (ls' := []) [] rfl ?_
      (try simp only [if_neg h1, if_neg h3] at K4 ⊢); exact K4
theorem nb_X12_isDigit  (μ : Mm) : narrow .boolean (.int (v_X12_isDigit  μ)) = .int (v_X12_isDigit  μ) := by
  unfold v_X12_isDigit; (repeat' split) <;> rfl
/-- VotingFloorModel.isFewer(II)Z -/
def v_X12_isFewer (p0 : Int32) (p1 : Int32) : Int32 := (if p1 < 0 then 1 else (if (v_J6_bitCount_0f7a4 p1) ≤ (v_J6_bitCount_0f7a4 p0) then 0 else 1 : Int32) : Int32)
set_option maxRecDepth 20000 in
set_option maxHeartbeats 4000000 in
theorem con_X12_isFewer {E : Ex} {Q : Option Value → Mm → Prop} {p0 : Int32} {p1 : Int32} {μ : Mm} (k : Q (some (.int (v_X12_isFewer p0 p1))) μ) : Con E 2 mX12_isFewer [.int p0, .int p1] μ Q := by
  refine Con_J (by decide +kernel) (Nat.le_of_ble_eq_true rfl) (fun G => ?_)
  unfold v_X12_isFewer at k
  refine J_sub (ls' := [(0, .int p0), (1, .int p1)]) [0, 1] rfl ?_
  refine J_iload_n (dk okX12_isFewer 0 rfl) 1 rfl rfl ?_
  have K3 : J E G 2 mX12_isFewer Q 20 [] [.int (if p1 < 0 then 1 else (if (v_J6_bitCount_0f7a4 p1) ≤ (v_J6_bitCount_0f7a4 p0) then 0 else 1 : Int32) : Int32)] μ := by
    exact J_zret (dk okX12_isFewer 10 rfl) rfl (by (repeat' split) <;> first | rfl | (simp only [*]; rfl)) k
  refine J_if_lt (tgt := 15) (dk okX12_isFewer 1 rfl) (by decide) (fun h1 => ?_) (fun h1 => ?_)
  · refine J_iconst (v := 1) (dk okX12_isFewer 7 rfl) (by decide) ?_
    refine J_goto (tgt := 20) (dk okX12_isFewer 8 rfl) (by decide) ?_
    refine J_sub (ls' := []) [] rfl ?_
    (try simp only [if_pos h1] at K3 ⊢); exact K3
  · refine J_iload_n (dk okX12_isFewer 2 rfl) 0 rfl rfl ?_
    refine J_callSi (As := [.int p0]) (dk okX12_isFewer 3 rfl) skJ6_bitCount_0f7a4 lkX12_299 rfl rfl (Nat.le_of_ble_eq_true rfl) (by decide) (con_J6_bitCount_0f7a4  ⟨_, rfl, ?_⟩)
    refine J_iload_n (dk okX12_isFewer 4 rfl) 1 rfl rfl ?_
    refine J_callSi (As := [.int p1]) (dk okX12_isFewer 5 rfl) skJ6_bitCount_0f7a4 lkX12_299 rfl rfl (Nat.le_of_ble_eq_true rfl) (by decide) (con_J6_bitCount_0f7a4  ⟨_, rfl, ?_⟩)
    refine J_icmp_ge (tgt := 19) (dk okX12_isFewer 6 rfl) (by decide) (fun h2 => ?_) (fun h2 => ?_)
    · refine J_iconst (v := 0) (dk okX12_isFewer 9 rfl) (by decide) ?_
      refine J_sub (ls' := []) [] rfl ?_
      (try simp only [if_neg h1, if_pos h2] at K3 ⊢); exact K3
    · refine J_iconst (v := 1) (dk okX12_isFewer 7 rfl) (by decide) ?_
      refine J_goto (tgt := 20) (dk okX12_isFewer 8 rfl) (by decide) ?_
      refine J_sub (ls' := []) [] rfl ?_
      (try simp only [if_neg h1, if_neg h2] at K3 ⊢); exact K3
theorem nb_X12_isFewer (p0 : Int32) (p1 : Int32) : narrow .boolean (.int (v_X12_isFewer p0 p1)) = .int (v_X12_isFewer p0 p1) := by
  unfold v_X12_isFewer; (repeat' split) <;> rfl
/-- VotingFloorModel.isOne(I)Z -/
def v_X12_isOne (p0 : Int32) (μ : Mm) : Int32 := (v_X12_in (Int32.toInt64 p0) 0 (Int32.toInt64 ((μ.1 49 3) - 1)))
set_option maxRecDepth 20000 in
set_option maxHeartbeats 4000000 in
theorem con_X12_isOne {E : Ex} {Q : Option Value → Mm → Prop} {p0 : Int32} {μ : Mm} (k : Q (some (.int (v_X12_isOne p0 μ))) μ) : Con E 2 mX12_isOne [rf E 49, .int p0] μ Q := by
  refine Con_J (by decide +kernel) (Nat.le_of_ble_eq_true rfl) (fun G => ?_)
  unfold v_X12_isOne at k
  refine J_sub (ls' := [(0, rf E 49), (1, .int p0)]) [0, 1] rfl ?_
  refine J_iload_n (dk okX12_isOne 0 rfl) 1 rfl rfl ?_
  refine J_i2l (dk okX12_isOne 1 rfl) ?_
  refine J_lconst (v := 0) (dk okX12_isOne 2 rfl) (by decide) ?_
  refine J_aload_n (dk okX12_isOne 3 rfl) 0 rfl rfl ?_
  refine J_getI (dk okX12_isOne 4 rfl) kfX12_111 ds_49 rfl ?_
  refine J_iconst (v := 1) (dk okX12_isOne 5 rfl) (by decide) ?_
  refine J_isub (dk okX12_isOne 6 rfl) ?_
  refine J_i2l (dk okX12_isOne 7 rfl) ?_
  refine J_callSi (As := [.long (Int32.toInt64 p0), .long 0, .long (Int32.toInt64 ((μ.1 49 3) - 1))]) (dk okX12_isOne 8 rfl) skX12_in lkX12_114 rfl rfl (Nat.le_of_ble_eq_true rfl) (by decide) (con_X12_in  ⟨_, rfl, ?_⟩)
  exact J_zret (dk okX12_isOne 9 rfl) rfl (nb_X12_in _ _ _) k
/-- VotingFloorModel.isSo(III)Z -/
def v_X12_isSo (p0 : Int32) (p1 : Int32) (p2 : Int32) (μ : Mm) : Int32 := (if p1 = 0 then (if (v_X12_load 52 p0 μ) < p2 then 0 else 1 : Int32) else (if p1 = 1 then (if (v_X12_flag (if (μ.1 52 (Int32.toNatClampNeg p0)) ≤ 0 then 0 else 1 : Int32)) = p2 then 1 else 0 : Int32) else (if p1 = 2 then (if (if 0 ≤ (μ.1 52 (Int32.toNatClampNeg (7 + p0))) then (μ.1 52 (Int32.toNatClampNeg (7 + p0))) else 0 - (μ.1 52 (Int32.toNatClampNeg (7 + p0)))) < p2 then 0 else 1 : Int32) else (if p1 = 3 then (if (v_X12_flag (if (μ.1 52 (Int32.toNatClampNeg (7 + p0))) ≤ 0 then 0 else 1 : Int32)) = p2 then 1 else 0 : Int32) else (if (v_X12_flag (v_X12_has (μ.1 52 (Int32.toNatClampNeg 21)) p0)) = p2 then 1 else 0 : Int32)))))
def p_X12_isSo (p0 : Int32) (p1 : Int32) (p2 : Int32)  : Prop := ((p1 = 0 → p_X12_load 52 p0) ∧ (¬ (p1 = 0) → ((p1 = 1 → vp_in p0 24) ∧ (¬ (p1 = 1) → ((p1 = 2 → vp_in (7 + p0) 24) ∧ (¬ (p1 = 2) → (p1 = 3 → vp_in (7 + p0) 24)))))))
set_option maxRecDepth 20000 in
set_option maxHeartbeats 4000000 in
theorem con_X12_isSo {E : Ex} {Q : Option Value → Mm → Prop} {p0 : Int32} {p1 : Int32} {p2 : Int32} {μ : Mm} (t : p_X12_isSo p0 p1 p2 ) (k : Q (some (.int (v_X12_isSo p0 p1 p2 μ))) μ) : Con E 2 mX12_isSo [rf E 49, .int p0, .int p1, .int p2] μ Q := by
  refine Con_J (by decide +kernel) (Nat.le_of_ble_eq_true rfl) (fun G => ?_)
  unfold v_X12_isSo at k
  unfold p_X12_isSo at t
  refine J_sub (ls' := [(0, rf E 49), (1, .int p0), (2, .int p1), (3, .int p2)]) [0, 1, 2, 3] rfl ?_
  refine J_iload_n (dk okX12_isSo 0 rfl) 2 rfl rfl ?_
  by_cases h2 : p1 = 0
  · have t := t.1 h2
    refine J_at h2 (J_tableIn (x := 0) (off := 31) (tgt := 32) (dk okX12_isSo 1 rfl) (by decide) (by decide) (by decide) (by decide) ?_)
    refine J_aload_n (dk okX12_isSo 2 rfl) 0 rfl rfl ?_
    refine J_aload_n (dk okX12_isSo 3 rfl) 0 rfl rfl ?_
    refine J_getR (dk okX12_isSo 4 rfl) kfX12_32 ds_49 rfl ?_
    refine J_iload_n (dk okX12_isSo 5 rfl) 1 rfl rfl ?_
    have s3 := t
    refine J_callVi (As := [rf E 52, .int p0]) (dk okX12_isSo 6 rfl) ds_49 rfl vkX12_load lkX12_130 rfl rfl (Nat.le_of_ble_eq_true rfl) (by decide) (con_X12_load ds_52 s3 ⟨_, rfl, ?_⟩)
    refine J_iload_n (dk okX12_isSo 7 rfl) 3 rfl rfl ?_
    have K5 : J E G 2 mX12_isSo Q 50 [] [.int (if (v_X12_load 52 p0 μ) < p2 then 0 else 1 : Int32)] μ := by
      (try simp only [if_pos h2] at k ⊢)
      exact J_zret (dk okX12_isSo 12 rfl) rfl (by (repeat' split) <;> first | rfl | (simp only [*]; rfl)) k
    refine J_icmp_lt (tgt := 49) (dk okX12_isSo 8 rfl) (by decide) (fun h4 => ?_) (fun h4 => ?_)
    · refine J_iconst (v := 0) (dk okX12_isSo 11 rfl) (by decide) ?_
      refine J_sub (ls' := []) [] rfl ?_
      (try simp only [if_pos h4] at K5 ⊢); exact K5
    · refine J_iconst (v := 1) (dk okX12_isSo 9 rfl) (by decide) ?_
      refine J_goto (tgt := 50) (dk okX12_isSo 10 rfl) (by decide) ?_
      refine J_sub (ls' := []) [] rfl ?_
      (try simp only [if_neg h4] at K5 ⊢); exact K5
  · have t := t.2 h2
    by_cases h6 : p1 = 1
    · have t := t.1 h6
      refine J_at h6 (J_tableIn (x := 1) (off := 50) (tgt := 51) (dk okX12_isSo 1 rfl) (by decide) (by decide) (by decide) (by decide) ?_)
      refine J_aload_n (dk okX12_isSo 13 rfl) 0 rfl rfl ?_
      refine J_getR (dk okX12_isSo 14 rfl) kfX12_32 ds_49 rfl ?_
      refine J_iload_n (dk okX12_isSo 15 rfl) 1 rfl rfl ?_
      have s7 := t
      refine J_iald (dk okX12_isSo 16 rfl) ds_52 s7 ?_
      have K9 : J E G 2 mX12_isSo Q 65 [(3, .int p2)] [.int (if (μ.1 52 (Int32.toNatClampNeg p0)) ≤ 0 then 0 else 1 : Int32)] μ := by
        refine J_callSi (As := [.int (if (μ.1 52 (Int32.toNatClampNeg p0)) ≤ 0 then 0 else 1 : Int32)]) (dk okX12_isSo 21 rfl) skX12_flag lkX12_137 rfl rfl (Nat.le_of_ble_eq_true rfl) (by decide) (con_X12_flag  ⟨_, rfl, ?_⟩)
        refine J_iload_n (dk okX12_isSo 22 rfl) 0 rfl rfl ?_
        have K11 : J E G 2 mX12_isSo Q 77 [] [.int (if (v_X12_flag (if (μ.1 52 (Int32.toNatClampNeg p0)) ≤ 0 then 0 else 1 : Int32)) = p2 then 1 else 0 : Int32)] μ := by
          (try simp only [if_neg h2, if_pos h6] at k ⊢)
          exact J_zret (dk okX12_isSo 27 rfl) rfl (by (repeat' split) <;> first | rfl | (simp only [*]; rfl)) k
        refine J_icmp_ne (tgt := 76) (dk okX12_isSo 23 rfl) (by decide) (fun h10 => ?_) (fun h10 => ?_)
        · refine J_iconst (v := 0) (dk okX12_isSo 26 rfl) (by decide) ?_
          refine J_sub (ls' := []) [] rfl ?_
          (try simp only [if_neg h10] at K11 ⊢); exact K11
        · refine J_iconst (v := 1) (dk okX12_isSo 24 rfl) (by decide) ?_
          refine J_goto (tgt := 77) (dk okX12_isSo 25 rfl) (by decide) ?_
          refine J_sub (ls' := []) [] rfl ?_
          (try simp only [if_pos h10] at K11 ⊢); exact K11
      refine J_if_le (tgt := 64) (dk okX12_isSo 17 rfl) (by decide) (fun h8 => ?_) (fun h8 => ?_)
      · refine J_iconst (v := 0) (dk okX12_isSo 20 rfl) (by decide) ?_
        refine J_sub (ls' := [(3, _)]) [3] rfl ?_
        (try simp only [if_pos h8] at K9 ⊢); exact K9
      · refine J_iconst (v := 1) (dk okX12_isSo 18 rfl) (by decide) ?_
        refine J_goto (tgt := 65) (dk okX12_isSo 19 rfl) (by decide) ?_
        refine J_sub (ls' := [(3, _)]) [3] rfl ?_
        (try simp only [if_neg h8] at K9 ⊢); exact K9
    · have t := t.2 h6
      by_cases h12 : p1 = 2
      · have t := t.1 h12
        refine J_at h12 (J_tableIn (x := 2) (off := 77) (tgt := 78) (dk okX12_isSo 1 rfl) (by decide) (by decide) (by decide) (by decide) ?_)
        refine J_aload_n (dk okX12_isSo 28 rfl) 0 rfl rfl ?_
        refine J_getR (dk okX12_isSo 29 rfl) kfX12_32 ds_49 rfl ?_
        refine J_bipush (v := 7) (dk okX12_isSo 30 rfl) (by decide) ?_
        refine J_iload_n (dk okX12_isSo 31 rfl) 1 rfl rfl ?_
        refine J_iadd (dk okX12_isSo 32 rfl) ?_
        have s13 := t
        refine J_iald (dk okX12_isSo 33 rfl) ds_52 s13 ?_
        refine J_mabs (dk okX12_isSo 34 rfl) lkX12_293 mk_abs_s mk_Math mk_abs_c (by decide) (Nat.le_of_ble_eq_true rfl) ?_
        refine J_iload_n (dk okX12_isSo 35 rfl) 3 rfl rfl ?_
        have K15 : J E G 2 mX12_isSo Q 99 [] [.int (if (if 0 ≤ (μ.1 52 (Int32.toNatClampNeg (7 + p0))) then (μ.1 52 (Int32.toNatClampNeg (7 + p0))) else 0 - (μ.1 52 (Int32.toNatClampNeg (7 + p0)))) < p2 then 0 else 1 : Int32)] μ := by
          (try simp only [if_neg h2, if_neg h6, if_pos h12] at k ⊢)
          exact J_zret (dk okX12_isSo 40 rfl) rfl (by (repeat' split) <;> first | rfl | (simp only [*]; rfl)) k
        refine J_icmp_lt (tgt := 98) (dk okX12_isSo 36 rfl) (by decide) (fun h14 => ?_) (fun h14 => ?_)
        · refine J_iconst (v := 0) (dk okX12_isSo 39 rfl) (by decide) ?_
          refine J_sub (ls' := []) [] rfl ?_
          (try simp only [if_pos h14] at K15 ⊢); exact K15
        · refine J_iconst (v := 1) (dk okX12_isSo 37 rfl) (by decide) ?_
          refine J_goto (tgt := 99) (dk okX12_isSo 38 rfl) (by decide) ?_
          refine J_sub (ls' := []) [] rfl ?_
          (try simp only [if_neg h14] at K15 ⊢); exact K15
      · have t := t.2 h12
        by_cases h16 : p1 = 3
        · have t := t h16
          refine J_at h16 (J_tableIn (x := 3) (off := 99) (tgt := 100) (dk okX12_isSo 1 rfl) (by decide) (by decide) (by decide) (by decide) ?_)
          refine J_aload_n (dk okX12_isSo 41 rfl) 0 rfl rfl ?_
          refine J_getR (dk okX12_isSo 42 rfl) kfX12_32 ds_49 rfl ?_
          refine J_bipush (v := 7) (dk okX12_isSo 43 rfl) (by decide) ?_
          refine J_iload_n (dk okX12_isSo 44 rfl) 1 rfl rfl ?_
          refine J_iadd (dk okX12_isSo 45 rfl) ?_
          have s17 := t
          refine J_iald (dk okX12_isSo 46 rfl) ds_52 s17 ?_
          have K19 : J E G 2 mX12_isSo Q 117 [(3, .int p2)] [.int (if (μ.1 52 (Int32.toNatClampNeg (7 + p0))) ≤ 0 then 0 else 1 : Int32)] μ := by
            refine J_callSi (As := [.int (if (μ.1 52 (Int32.toNatClampNeg (7 + p0))) ≤ 0 then 0 else 1 : Int32)]) (dk okX12_isSo 51 rfl) skX12_flag lkX12_137 rfl rfl (Nat.le_of_ble_eq_true rfl) (by decide) (con_X12_flag  ⟨_, rfl, ?_⟩)
            refine J_iload_n (dk okX12_isSo 52 rfl) 0 rfl rfl ?_
            have K21 : J E G 2 mX12_isSo Q 129 [] [.int (if (v_X12_flag (if (μ.1 52 (Int32.toNatClampNeg (7 + p0))) ≤ 0 then 0 else 1 : Int32)) = p2 then 1 else 0 : Int32)] μ := by
              (try simp only [if_neg h2, if_neg h6, if_neg h12, if_pos h16] at k ⊢)
              exact J_zret (dk okX12_isSo 57 rfl) rfl (by (repeat' split) <;> first | rfl | (simp only [*]; rfl)) k
            refine J_icmp_ne (tgt := 128) (dk okX12_isSo 53 rfl) (by decide) (fun h20 => ?_) (fun h20 => ?_)
            · refine J_iconst (v := 0) (dk okX12_isSo 56 rfl) (by decide) ?_
              refine J_sub (ls' := []) [] rfl ?_
              (try simp only [if_neg h20] at K21 ⊢); exact K21
            · refine J_iconst (v := 1) (dk okX12_isSo 54 rfl) (by decide) ?_
              refine J_goto (tgt := 129) (dk okX12_isSo 55 rfl) (by decide) ?_
              refine J_sub (ls' := []) [] rfl ?_
              (try simp only [if_pos h20] at K21 ⊢); exact K21
          refine J_if_le (tgt := 116) (dk okX12_isSo 47 rfl) (by decide) (fun h18 => ?_) (fun h18 => ?_)
          · refine J_iconst (v := 0) (dk okX12_isSo 50 rfl) (by decide) ?_
            refine J_sub (ls' := [(3, _)]) [3] rfl ?_
            (try simp only [if_pos h18] at K19 ⊢); exact K19
          · refine J_iconst (v := 1) (dk okX12_isSo 48 rfl) (by decide) ?_
            refine J_goto (tgt := 117) (dk okX12_isSo 49 rfl) (by decide) ?_
            refine J_sub (ls' := [(3, _)]) [3] rfl ?_
            (try simp only [if_neg h18] at K19 ⊢); exact K19
        · have nh2 := lv_neT (a := 0) h2 (by decide)
          have nh6 := lv_neT (a := 1) h6 (by decide)
          have nh12 := lv_neT (a := 2) h12 (by decide)
          have nh16 := lv_neT (a := 3) h16 (by decide)
          refine J_tableOut (tgt := 130) (dk okX12_isSo 1 rfl) (by omega) (by decide) ?_
          refine J_aload_n (dk okX12_isSo 58 rfl) 0 rfl rfl ?_
          refine J_getR (dk okX12_isSo 59 rfl) kfX12_32 ds_49 rfl ?_
          refine J_bipush (v := 21) (dk okX12_isSo 60 rfl) (by decide) ?_
          refine J_iald (dk okX12_isSo 61 rfl) ds_52 (by unfold vp_in; decide) ?_
          refine J_iload_n (dk okX12_isSo 62 rfl) 1 rfl rfl ?_
          refine J_callSi (As := [.int (μ.1 52 (Int32.toNatClampNeg 21)), .int p0]) (dk okX12_isSo 63 rfl) skX12_has lkX12_126 rfl rfl (Nat.le_of_ble_eq_true rfl) (by decide) (con_X12_has  ⟨_, rfl, ?_⟩)
          refine J_callSi (As := [.int (v_X12_has (μ.1 52 (Int32.toNatClampNeg 21)) p0)]) (dk okX12_isSo 64 rfl) skX12_flag lkX12_137 rfl rfl (Nat.le_of_ble_eq_true rfl) (by decide) (con_X12_flag  ⟨_, rfl, ?_⟩)
          refine J_iload_n (dk okX12_isSo 65 rfl) 3 rfl rfl ?_
          have K23 : J E G 2 mX12_isSo Q 153 [] [.int (if (v_X12_flag (v_X12_has (μ.1 52 (Int32.toNatClampNeg 21)) p0)) = p2 then 1 else 0 : Int32)] μ := by
            (try simp only [if_neg h2, if_neg h6, if_neg h12, if_neg h16] at k ⊢)
            exact J_zret (dk okX12_isSo 70 rfl) rfl (by (repeat' split) <;> first | rfl | (simp only [*]; rfl)) k
          refine J_icmp_ne (tgt := 152) (dk okX12_isSo 66 rfl) (by decide) (fun h22 => ?_) (fun h22 => ?_)
          · refine J_iconst (v := 0) (dk okX12_isSo 69 rfl) (by decide) ?_
            refine J_sub (ls' := []) [] rfl ?_
            (try simp only [if_neg h22] at K23 ⊢); exact K23
          · refine J_iconst (v := 1) (dk okX12_isSo 67 rfl) (by decide) ?_
            refine J_goto (tgt := 153) (dk okX12_isSo 68 rfl) (by decide) ?_
            refine J_sub (ls' := []) [] rfl ?_
            (try simp only [if_pos h22] at K23 ⊢); exact K23
theorem nb_X12_isSo (p0 : Int32) (p1 : Int32) (p2 : Int32) (μ : Mm) : narrow .boolean (.int (v_X12_isSo p0 p1 p2 μ)) = .int (v_X12_isSo p0 p1 p2 μ) := by
  unfold v_X12_isSo; (repeat' split) <;> rfl
/-- VotingFloorModel.lowest(I)I -/
def v_X12_lowest (p0 : Int32) : Int32 := (v_X12_flag (if p0 = 0 then 1 else 0 : Int32))
set_option maxRecDepth 20000 in
set_option maxHeartbeats 4000000 in
theorem con_X12_lowest {E : Ex} {Q : Option Value → Mm → Prop} {p0 : Int32} {μ : Mm} (k : Q (some (.int (v_X12_lowest p0))) μ) : Con E 2 mX12_lowest [.int p0] μ Q := by
  refine Con_J (by decide +kernel) (Nat.le_of_ble_eq_true rfl) (fun G => ?_)
  unfold v_X12_lowest at k
  refine J_sub (ls' := [(0, .int p0)]) [0] rfl ?_
  refine J_iload_n (dk okX12_lowest 0 rfl) 0 rfl rfl ?_
  have K2 : J E G 2 mX12_lowest Q 9 [] [.int (if p0 = 0 then 1 else 0 : Int32)] μ := by
    refine J_callSi (As := [.int (if p0 = 0 then 1 else 0 : Int32)]) (dk okX12_lowest 5 rfl) skX12_flag lkX12_137 rfl rfl (Nat.le_of_ble_eq_true rfl) (by decide) (con_X12_flag  ⟨_, rfl, ?_⟩)
    exact J_iret (dk okX12_lowest 6 rfl) rfl k
  refine J_if_ne (tgt := 8) (dk okX12_lowest 1 rfl) (by decide) (fun h1 => ?_) (fun h1 => ?_)
  · refine J_iconst (v := 0) (dk okX12_lowest 4 rfl) (by decide) ?_
    refine J_sub (ls' := []) [] rfl ?_
    (try simp only [if_neg h1] at K2 ⊢); exact K2
  · refine J_iconst (v := 1) (dk okX12_lowest 2 rfl) (by decide) ?_
    refine J_goto (tgt := 9) (dk okX12_lowest 3 rfl) (by decide) ?_
    refine J_sub (ls' := []) [] rfl ?_
    (try simp only [if_pos h1] at K2 ⊢); exact K2
/-- VotingFloorModel.room(II)I -/
def v_X12_room (p0 : Int32) (p1 : Int32) (μ : Mm) : Int32 := (if (v_X12_has p0 p1) = 0 then 0 else (9 - (μ.1 52 (Int32.toNatClampNeg (7 + p1)))) : Int32)
def p_X12_room (p0 : Int32) (p1 : Int32)  : Prop := (¬ ((v_X12_has p0 p1) = 0) → vp_in (7 + p1) 24)
set_option maxRecDepth 20000 in
set_option maxHeartbeats 4000000 in
theorem con_X12_room {E : Ex} {Q : Option Value → Mm → Prop} {p0 : Int32} {p1 : Int32} {μ : Mm} (t : p_X12_room p0 p1 ) (k : Q (some (.int (v_X12_room p0 p1 μ))) μ) : Con E 2 mX12_room [rf E 49, .int p0, .int p1] μ Q := by
  refine Con_J (by decide +kernel) (Nat.le_of_ble_eq_true rfl) (fun G => ?_)
  unfold v_X12_room at k
  unfold p_X12_room at t
  refine J_sub (ls' := [(0, rf E 49), (1, .int p0), (2, .int p1)]) [0, 1, 2] rfl ?_
  refine J_iload_n (dk okX12_room 0 rfl) 1 rfl rfl ?_
  refine J_iload_n (dk okX12_room 1 rfl) 2 rfl rfl ?_
  refine J_callSi (As := [.int p0, .int p1]) (dk okX12_room 2 rfl) skX12_has lkX12_126 rfl rfl (Nat.le_of_ble_eq_true rfl) (by decide) (con_X12_has  ⟨_, rfl, ?_⟩)
  have K3 : J E G 2 mX12_room Q 24 [] [.int (if (v_X12_has p0 p1) = 0 then 0 else (9 - (μ.1 52 (Int32.toNatClampNeg (7 + p1)))) : Int32)] μ := by
    exact J_iret (dk okX12_room 14 rfl) rfl k
  refine J_if_eq (tgt := 23) (dk okX12_room 3 rfl) (by decide) (fun h1 => ?_) (fun h1 => ?_)
  · refine J_iconst (v := 0) (dk okX12_room 13 rfl) (by decide) ?_
    refine J_sub (ls' := []) [] rfl ?_
    (try simp only [if_pos h1] at K3 ⊢); exact K3
  · have t := t h1
    refine J_bipush (v := 9) (dk okX12_room 4 rfl) (by decide) ?_
    refine J_aload_n (dk okX12_room 5 rfl) 0 rfl rfl ?_
    refine J_getR (dk okX12_room 6 rfl) kfX12_32 ds_49 rfl ?_
    refine J_bipush (v := 7) (dk okX12_room 7 rfl) (by decide) ?_
    refine J_iload_n (dk okX12_room 8 rfl) 2 rfl rfl ?_
    refine J_iadd (dk okX12_room 9 rfl) ?_
    have s2 := t
    refine J_iald (dk okX12_room 10 rfl) ds_52 s2 ?_
    refine J_isub (dk okX12_room 11 rfl) ?_
    refine J_goto (tgt := 24) (dk okX12_room 12 rfl) (by decide) ?_
    refine J_sub (ls' := []) [] rfl ?_
    (try simp only [if_neg h1] at K3 ⊢); exact K3
/-- VotingFloorModel.row(I)J -/
def v_X12_row (p0 : Int32) (μ : Mm) : Int64 := (let μ1 : Mm := (upI μ 49 0 0); (if (v_X12_in (Int32.toInt64 p0) 0 (Int32.toInt64 ((μ1.1 49 1) - 1))) = 0 then 0 else (μ1.2 50 (Int32.toNatClampNeg p0))))
def e_X12_row (p0 : Int32) (μ : Mm) : Mm := (let μ1 : Mm := (upI μ 49 0 0); (if (v_X12_in (Int32.toInt64 p0) 0 (Int32.toInt64 ((μ1.1 49 1) - 1))) = 0 then (let μ3 : Mm := (upI μ1 49 0 1); μ3) else μ1))
def p_X12_row (p0 : Int32)  (μ : Mm) : Prop := (∀ μ1 : Mm, μ1 = (upI μ 49 0 0) → (¬ ((v_X12_in (Int32.toInt64 p0) 0 (Int32.toInt64 ((μ1.1 49 1) - 1))) = 0) → vp_in p0 24))
set_option maxRecDepth 20000 in
set_option maxHeartbeats 4000000 in
theorem con_X12_row {E : Ex} {Q : Option Value → Mm → Prop} {p0 : Int32} {μ : Mm} (t : p_X12_row p0  μ) (k : Q (some (.long (v_X12_row p0 μ))) (e_X12_row p0 μ)) : Con E 2 mX12_row [rf E 49, .int p0] μ Q := by
  refine Con_J (by decide +kernel) (Nat.le_of_ble_eq_true rfl) (fun G => ?_)
  unfold v_X12_row e_X12_row at k
  unfold p_X12_row at t
  refine J_sub (ls' := [(0, rf E 49), (1, .int p0)]) [0, 1] rfl ?_
  refine J_aload_n (dk okX12_row 0 rfl) 0 rfl rfl ?_
  refine J_iconst (v := 0) (dk okX12_row 1 rfl) (by decide) ?_
  refine J_put (dk okX12_row 2 rfl) kpX12_3 ds_49 rfl rfl rfl ?_
  refine J_nm (fun μ1 eμ1 => ?_)
  have t := t μ1 eμ1
  refine J_iload_n (dk okX12_row 3 rfl) 1 rfl rfl ?_
  refine J_i2l (dk okX12_row 4 rfl) ?_
  refine J_lconst (v := 0) (dk okX12_row 5 rfl) (by decide) ?_
  refine J_aload_n (dk okX12_row 6 rfl) 0 rfl rfl ?_
  refine J_getI (dk okX12_row 7 rfl) kfX12_15 ds_49 rfl ?_
  refine J_iconst (v := 1) (dk okX12_row 8 rfl) (by decide) ?_
  refine J_isub (dk okX12_row 9 rfl) ?_
  refine J_i2l (dk okX12_row 10 rfl) ?_
  refine J_callSi (As := [.long (Int32.toInt64 p0), .long 0, .long (Int32.toInt64 ((μ1.1 49 1) - 1))]) (dk okX12_row 11 rfl) skX12_in lkX12_114 rfl rfl (Nat.le_of_ble_eq_true rfl) (by decide) (con_X12_in  ⟨_, rfl, ?_⟩)
  refine J_if_ne (tgt := 28) (dk okX12_row 12 rfl) (by decide) (fun h2 => ?_) (fun h2 => ?_)
  · have t := t h2
    refine J_aload_n (dk okX12_row 18 rfl) 0 rfl rfl ?_
    refine J_getR (dk okX12_row 19 rfl) kfX12_11 ds_49 rfl ?_
    refine J_iload_n (dk okX12_row 20 rfl) 1 rfl rfl ?_
    have s4 := t
    refine J_lald (dk okX12_row 21 rfl) ds_50 s4 ?_
    subst eμ1
    (try simp only [if_neg h2] at k ⊢)
    exact J_lret (dk okX12_row 22 rfl) rfl k
  · refine J_aload_n (dk okX12_row 13 rfl) 0 rfl rfl ?_
    refine J_iconst (v := 1) (dk okX12_row 14 rfl) (by decide) ?_
    refine J_put (dk okX12_row 15 rfl) kpX12_3 ds_49 rfl rfl rfl ?_
    refine J_nm (fun μ3 eμ3 => ?_)
    refine J_lconst (v := 0) (dk okX12_row 16 rfl) (by decide) ?_
    subst eμ3 eμ1
    (try simp only [if_pos h2] at k ⊢)
    exact J_lret (dk okX12_row 17 rfl) rfl k
/-- VotingFloorModel.side(I)I -/
def v_X12_side (p0 : Int32) : Int32 := ((v_X12_flag (if p0 ≤ 0 then 0 else 1 : Int32)) - (v_X12_flag (if 0 ≤ p0 then 0 else 1 : Int32)))
set_option maxRecDepth 20000 in
set_option maxHeartbeats 4000000 in
theorem con_X12_side {E : Ex} {Q : Option Value → Mm → Prop} {p0 : Int32} {μ : Mm} (k : Q (some (.int (v_X12_side p0))) μ) : Con E 2 mX12_side [.int p0] μ Q := by
  refine Con_J (by decide +kernel) (Nat.le_of_ble_eq_true rfl) (fun G => ?_)
  unfold v_X12_side at k
  refine J_sub (ls' := [(0, .int p0)]) [0] rfl ?_
  refine J_iload_n (dk okX12_side 0 rfl) 0 rfl rfl ?_
  have K2 : J E G 2 mX12_side Q 9 [(0, .int p0)] [.int (if p0 ≤ 0 then 0 else 1 : Int32)] μ := by
    refine J_callSi (As := [.int (if p0 ≤ 0 then 0 else 1 : Int32)]) (dk okX12_side 5 rfl) skX12_flag lkX12_137 rfl rfl (Nat.le_of_ble_eq_true rfl) (by decide) (con_X12_flag  ⟨_, rfl, ?_⟩)
    refine J_iload_n (dk okX12_side 6 rfl) 0 rfl rfl ?_
    have K4 : J E G 2 mX12_side Q 21 [] [.int (if 0 ≤ p0 then 0 else 1 : Int32), .int (v_X12_flag (if p0 ≤ 0 then 0 else 1 : Int32))] μ := by
      refine J_callSi (As := [.int (if 0 ≤ p0 then 0 else 1 : Int32)]) (dk okX12_side 11 rfl) skX12_flag lkX12_137 rfl rfl (Nat.le_of_ble_eq_true rfl) (by decide) (con_X12_flag  ⟨_, rfl, ?_⟩)
      refine J_isub (dk okX12_side 12 rfl) ?_
      exact J_iret (dk okX12_side 13 rfl) rfl k
    refine J_if_ge (tgt := 20) (dk okX12_side 7 rfl) (by decide) (fun h3 => ?_) (fun h3 => ?_)
    · refine J_iconst (v := 0) (dk okX12_side 10 rfl) (by decide) ?_
      refine J_sub (ls' := []) [] rfl ?_
      (try simp only [if_pos h3] at K4 ⊢); exact K4
    · refine J_iconst (v := 1) (dk okX12_side 8 rfl) (by decide) ?_
      refine J_goto (tgt := 21) (dk okX12_side 9 rfl) (by decide) ?_
      refine J_sub (ls' := []) [] rfl ?_
      (try simp only [if_neg h3] at K4 ⊢); exact K4
  refine J_if_le (tgt := 8) (dk okX12_side 1 rfl) (by decide) (fun h1 => ?_) (fun h1 => ?_)
  · refine J_iconst (v := 0) (dk okX12_side 4 rfl) (by decide) ?_
    refine J_sub (ls' := [(0, _)]) [0] rfl ?_
    (try simp only [if_pos h1] at K2 ⊢); exact K2
  · refine J_iconst (v := 1) (dk okX12_side 2 rfl) (by decide) ?_
    refine J_goto (tgt := 9) (dk okX12_side 3 rfl) (by decide) ?_
    refine J_sub (ls' := [(0, _)]) [0] rfl ?_
    (try simp only [if_neg h1] at K2 ⊢); exact K2
/-- VotingFloorModel.takes(I)Z -/
def v_X12_takes (p0 : Int32) (μ : Mm) : Int32 := (if (μ.1 49 11) ≤ (μ.1 49 10) then 0 else (if (μ.1 54 (Int32.toNatClampNeg (μ.1 49 10))) = p0 then 1 else 0 : Int32) : Int32)
def e_X12_takes (p0 : Int32) (μ : Mm) : Mm := (let μ5 : Mm := (upI μ 49 10 ((μ.1 49 10) + (v_X12_flag (if (μ.1 49 11) ≤ (μ.1 49 10) then 0 else (if (μ.1 54 (Int32.toNatClampNeg (μ.1 49 10))) = p0 then 1 else 0 : Int32) : Int32)))); μ5)
def p_X12_takes (p0 : Int32)  (μ : Mm) : Prop := (¬ ((μ.1 49 11) ≤ (μ.1 49 10)) → vp_in (μ.1 49 10) 80)
set_option maxRecDepth 20000 in
set_option maxHeartbeats 4000000 in
theorem con_X12_takes {E : Ex} {Q : Option Value → Mm → Prop} {p0 : Int32} {μ : Mm} (t : p_X12_takes p0  μ) (k : Q (some (.int (v_X12_takes p0 μ))) (e_X12_takes p0 μ)) : Con E 2 mX12_takes [rf E 49, .int p0] μ Q := by
  refine Con_J (by decide +kernel) (Nat.le_of_ble_eq_true rfl) (fun G => ?_)
  unfold v_X12_takes e_X12_takes at k
  unfold p_X12_takes at t
  refine J_sub (ls' := [(0, rf E 49), (1, .int p0)]) [0, 1] rfl ?_
  refine J_aload_n (dk okX12_takes 0 rfl) 0 rfl rfl ?_
  refine J_getI (dk okX12_takes 1 rfl) kfX12_144 ds_49 rfl ?_
  refine J_aload_n (dk okX12_takes 2 rfl) 0 rfl rfl ?_
  refine J_getI (dk okX12_takes 3 rfl) kfX12_156 ds_49 rfl ?_
  have K4 : J E G 2 mX12_takes Q 29 [(0, rf E 49)] [.int (if (μ.1 49 11) ≤ (μ.1 49 10) then 0 else (if (μ.1 54 (Int32.toNatClampNeg (μ.1 49 10))) = p0 then 1 else 0 : Int32) : Int32)] μ := by
    refine J_istore_n (ls' := [(2, _), (0, _)]) (dk okX12_takes 15 rfl) rfl (by decide) rfl ?_
    refine J_aload_n (dk okX12_takes 16 rfl) 1 rfl rfl ?_
    refine J_dup (dk okX12_takes 17 rfl) rfl ?_
    refine J_getI (dk okX12_takes 18 rfl) kfX12_144 ds_49 rfl ?_
    refine J_iload_n (dk okX12_takes 19 rfl) 0 rfl rfl ?_
    refine J_callSi (As := [.int (if (μ.1 49 11) ≤ (μ.1 49 10) then 0 else (if (μ.1 54 (Int32.toNatClampNeg (μ.1 49 10))) = p0 then 1 else 0 : Int32) : Int32)]) (dk okX12_takes 20 rfl) skX12_flag lkX12_137 rfl rfl (Nat.le_of_ble_eq_true rfl) (by decide) (con_X12_flag  ⟨_, rfl, ?_⟩)
    refine J_iadd (dk okX12_takes 21 rfl) ?_
    refine J_put (dk okX12_takes 22 rfl) kpX12_144 ds_49 rfl rfl rfl ?_
    refine J_nm (fun μ5 eμ5 => ?_)
    refine J_iload_n (dk okX12_takes 23 rfl) 0 rfl rfl ?_
    subst eμ5
    exact J_zret (dk okX12_takes 24 rfl) rfl (by (repeat' split) <;> first | rfl | (simp only [*]; rfl)) k
  refine J_icmp_ge (tgt := 28) (dk okX12_takes 4 rfl) (by decide) (fun h1 => ?_) (fun h1 => ?_)
  · refine J_iconst (v := 0) (dk okX12_takes 14 rfl) (by decide) ?_
    refine J_sub (ls' := [(0, _)]) [0] rfl ?_
    (try simp only [if_pos h1] at K4 ⊢); exact K4
  · have t := t h1
    refine J_aload_n (dk okX12_takes 5 rfl) 0 rfl rfl ?_
    refine J_getR (dk okX12_takes 6 rfl) kfX12_38 ds_49 rfl ?_
    refine J_aload_n (dk okX12_takes 7 rfl) 0 rfl rfl ?_
    refine J_getI (dk okX12_takes 8 rfl) kfX12_144 ds_49 rfl ?_
    have s2 := t
    refine J_iald (dk okX12_takes 9 rfl) ds_54 s2 ?_
    refine J_iload_n (dk okX12_takes 10 rfl) 1 rfl rfl ?_
    refine J_icmp_ne (tgt := 28) (dk okX12_takes 11 rfl) (by decide) (fun h3 => ?_) (fun h3 => ?_)
    · refine J_iconst (v := 0) (dk okX12_takes 14 rfl) (by decide) ?_
      refine J_sub (ls' := [(0, _)]) [0] rfl ?_
      (try simp only [if_neg h1, if_neg h3] at K4 ⊢); exact K4
    · refine J_iconst (v := 1) (dk okX12_takes 12 rfl) (by decide) ?_
      refine J_goto (tgt := 29) (dk okX12_takes 13 rfl) (by decide) ?_
      refine J_sub (ls' := [(0, _)]) [0] rfl ?_
      (try simp only [if_neg h1, if_pos h3] at K4 ⊢); exact K4
theorem nb_X12_takes (p0 : Int32) (μ : Mm) : narrow .boolean (.int (v_X12_takes p0 μ)) = .int (v_X12_takes p0 μ) := by
  unfold v_X12_takes; (repeat' split) <;> rfl
/-- VotingFloorModel.worked(III)I -/
def v_X12_worked (p0 : Int32) (p1 : Int32) (p2 : Int32) : Int32 := (if p0 = 0 then (v_X12_flag (if p2 ≤ p1 then 0 else 1 : Int32)) else (if p0 = 1 then (v_X12_flag (if p1 ≤ p2 then 0 else 1 : Int32)) else (if p0 = 2 then (v_X12_flag (if p1 = p2 then 1 else 0 : Int32)) else (if p0 = 3 then (p1 + p2) else (if p0 = 4 then (p1 - p2) else (if p0 = 5 then (p1 * p2) else (if p2 = 0 then 0 else (p1 / p2) : Int32)))))))
def p_X12_worked (p0 : Int32) (p1 : Int32) (p2 : Int32)  : Prop := (¬ (p0 = 0) → (¬ (p0 = 1) → (¬ (p0 = 2) → (¬ (p0 = 3) → (¬ (p0 = 4) → (¬ (p0 = 5) → (¬ (p2 = 0) → ¬ p2 = 0)))))))
set_option maxRecDepth 20000 in
set_option maxHeartbeats 4000000 in
theorem con_X12_worked {E : Ex} {Q : Option Value → Mm → Prop} {p0 : Int32} {p1 : Int32} {p2 : Int32} {μ : Mm} (t : p_X12_worked p0 p1 p2 ) (k : Q (some (.int (v_X12_worked p0 p1 p2))) μ) : Con E 2 mX12_worked [.int p0, .int p1, .int p2] μ Q := by
  refine Con_J (by decide +kernel) (Nat.le_of_ble_eq_true rfl) (fun G => ?_)
  unfold v_X12_worked at k
  unfold p_X12_worked at t
  refine J_sub (ls' := [(0, .int p0), (1, .int p1), (2, .int p2)]) [0, 1, 2] rfl ?_
  refine J_iload_n (dk okX12_worked 0 rfl) 0 rfl rfl ?_
  by_cases h2 : p0 = 0
  · refine J_at h2 (J_tableIn (x := 0) (off := 39) (tgt := 40) (dk okX12_worked 1 rfl) (by decide) (by decide) (by decide) (by decide) ?_)
    refine J_iload_n (dk okX12_worked 2 rfl) 1 rfl rfl ?_
    refine J_iload_n (dk okX12_worked 3 rfl) 2 rfl rfl ?_
    have K4 : J E G 2 mX12_worked Q 50 [] [.int (if p2 ≤ p1 then 0 else 1 : Int32)] μ := by
      refine J_callSi (As := [.int (if p2 ≤ p1 then 0 else 1 : Int32)]) (dk okX12_worked 8 rfl) skX12_flag lkX12_137 rfl rfl (Nat.le_of_ble_eq_true rfl) (by decide) (con_X12_flag  ⟨_, rfl, ?_⟩)
      (try simp only [if_pos h2] at k ⊢)
      exact J_iret (dk okX12_worked 9 rfl) rfl k
    refine J_icmp_ge (tgt := 49) (dk okX12_worked 4 rfl) (by decide) (fun h3 => ?_) (fun h3 => ?_)
    · refine J_iconst (v := 0) (dk okX12_worked 7 rfl) (by decide) ?_
      refine J_sub (ls' := []) [] rfl ?_
      (try simp only [if_pos h3] at K4 ⊢); exact K4
    · refine J_iconst (v := 1) (dk okX12_worked 5 rfl) (by decide) ?_
      refine J_goto (tgt := 50) (dk okX12_worked 6 rfl) (by decide) ?_
      refine J_sub (ls' := []) [] rfl ?_
      (try simp only [if_neg h3] at K4 ⊢); exact K4
  · have t := t h2
    by_cases h5 : p0 = 1
    · refine J_at h5 (J_tableIn (x := 1) (off := 53) (tgt := 54) (dk okX12_worked 1 rfl) (by decide) (by decide) (by decide) (by decide) ?_)
      refine J_iload_n (dk okX12_worked 10 rfl) 1 rfl rfl ?_
      refine J_iload_n (dk okX12_worked 11 rfl) 2 rfl rfl ?_
      have K7 : J E G 2 mX12_worked Q 64 [] [.int (if p1 ≤ p2 then 0 else 1 : Int32)] μ := by
        refine J_callSi (As := [.int (if p1 ≤ p2 then 0 else 1 : Int32)]) (dk okX12_worked 16 rfl) skX12_flag lkX12_137 rfl rfl (Nat.le_of_ble_eq_true rfl) (by decide) (con_X12_flag  ⟨_, rfl, ?_⟩)
        (try simp only [if_neg h2, if_pos h5] at k ⊢)
        exact J_iret (dk okX12_worked 17 rfl) rfl k
      refine J_icmp_le (tgt := 63) (dk okX12_worked 12 rfl) (by decide) (fun h6 => ?_) (fun h6 => ?_)
      · refine J_iconst (v := 0) (dk okX12_worked 15 rfl) (by decide) ?_
        refine J_sub (ls' := []) [] rfl ?_
        (try simp only [if_pos h6] at K7 ⊢); exact K7
      · refine J_iconst (v := 1) (dk okX12_worked 13 rfl) (by decide) ?_
        refine J_goto (tgt := 64) (dk okX12_worked 14 rfl) (by decide) ?_
        refine J_sub (ls' := []) [] rfl ?_
        (try simp only [if_neg h6] at K7 ⊢); exact K7
    · have t := t h5
      by_cases h8 : p0 = 2
      · refine J_at h8 (J_tableIn (x := 2) (off := 67) (tgt := 68) (dk okX12_worked 1 rfl) (by decide) (by decide) (by decide) (by decide) ?_)
        refine J_iload_n (dk okX12_worked 18 rfl) 1 rfl rfl ?_
        refine J_iload_n (dk okX12_worked 19 rfl) 2 rfl rfl ?_
        have K10 : J E G 2 mX12_worked Q 78 [] [.int (if p1 = p2 then 1 else 0 : Int32)] μ := by
          refine J_callSi (As := [.int (if p1 = p2 then 1 else 0 : Int32)]) (dk okX12_worked 24 rfl) skX12_flag lkX12_137 rfl rfl (Nat.le_of_ble_eq_true rfl) (by decide) (con_X12_flag  ⟨_, rfl, ?_⟩)
          (try simp only [if_neg h2, if_neg h5, if_pos h8] at k ⊢)
          exact J_iret (dk okX12_worked 25 rfl) rfl k
        refine J_icmp_ne (tgt := 77) (dk okX12_worked 20 rfl) (by decide) (fun h9 => ?_) (fun h9 => ?_)
        · refine J_iconst (v := 0) (dk okX12_worked 23 rfl) (by decide) ?_
          refine J_sub (ls' := []) [] rfl ?_
          (try simp only [if_neg h9] at K10 ⊢); exact K10
        · refine J_iconst (v := 1) (dk okX12_worked 21 rfl) (by decide) ?_
          refine J_goto (tgt := 78) (dk okX12_worked 22 rfl) (by decide) ?_
          refine J_sub (ls' := []) [] rfl ?_
          (try simp only [if_pos h9] at K10 ⊢); exact K10
      · have t := t h8
        by_cases h11 : p0 = 3
        · refine J_at h11 (J_tableIn (x := 3) (off := 81) (tgt := 82) (dk okX12_worked 1 rfl) (by decide) (by decide) (by decide) (by decide) ?_)
          refine J_iload_n (dk okX12_worked 26 rfl) 1 rfl rfl ?_
          refine J_iload_n (dk okX12_worked 27 rfl) 2 rfl rfl ?_
          refine J_iadd (dk okX12_worked 28 rfl) ?_
          (try simp only [if_neg h2, if_neg h5, if_neg h8, if_pos h11] at k ⊢)
          exact J_iret (dk okX12_worked 29 rfl) rfl k
        · have t := t h11
          by_cases h12 : p0 = 4
          · refine J_at h12 (J_tableIn (x := 4) (off := 85) (tgt := 86) (dk okX12_worked 1 rfl) (by decide) (by decide) (by decide) (by decide) ?_)
            refine J_iload_n (dk okX12_worked 30 rfl) 1 rfl rfl ?_
            refine J_iload_n (dk okX12_worked 31 rfl) 2 rfl rfl ?_
            refine J_isub (dk okX12_worked 32 rfl) ?_
            (try simp only [if_neg h2, if_neg h5, if_neg h8, if_neg h11, if_pos h12] at k ⊢)
            exact J_iret (dk okX12_worked 33 rfl) rfl k
          · have t := t h12
            by_cases h13 : p0 = 5
            · refine J_at h13 (J_tableIn (x := 5) (off := 89) (tgt := 90) (dk okX12_worked 1 rfl) (by decide) (by decide) (by decide) (by decide) ?_)
              refine J_iload_n (dk okX12_worked 34 rfl) 1 rfl rfl ?_
              refine J_iload_n (dk okX12_worked 35 rfl) 2 rfl rfl ?_
              refine J_imul (dk okX12_worked 36 rfl) ?_
              (try simp only [if_neg h2, if_neg h5, if_neg h8, if_neg h11, if_neg h12, if_pos h13] at k ⊢)
              exact J_iret (dk okX12_worked 37 rfl) rfl k
            · have t := t h13
              have nh2 := lv_neT (a := 0) h2 (by decide)
              have nh5 := lv_neT (a := 1) h5 (by decide)
              have nh8 := lv_neT (a := 2) h8 (by decide)
              have nh11 := lv_neT (a := 3) h11 (by decide)
              have nh12 := lv_neT (a := 4) h12 (by decide)
              have nh13 := lv_neT (a := 5) h13 (by decide)
              refine J_tableOut (tgt := 94) (dk okX12_worked 1 rfl) (by omega) (by decide) ?_
              refine J_iload_n (dk okX12_worked 38 rfl) 2 rfl rfl ?_
              have K16 : J E G 2 mX12_worked Q 105 [] [.int (if p2 = 0 then 0 else (p1 / p2) : Int32)] μ := by
                (try simp only [if_neg h2, if_neg h5, if_neg h8, if_neg h11, if_neg h12, if_neg h13] at k ⊢)
                exact J_iret (dk okX12_worked 45 rfl) rfl k
              refine J_if_ne (tgt := 102) (dk okX12_worked 39 rfl) (by decide) (fun h14 => ?_) (fun h14 => ?_)
              · have t := t h14
                refine J_iload_n (dk okX12_worked 42 rfl) 1 rfl rfl ?_
                refine J_iload_n (dk okX12_worked 43 rfl) 2 rfl rfl ?_
                have s15 := t
                refine J_idiv (dk okX12_worked 44 rfl) s15 ?_
                refine J_sub (ls' := []) [] rfl ?_
                (try simp only [if_neg h14] at K16 ⊢); exact K16
              · refine J_iconst (v := 0) (dk okX12_worked 40 rfl) (by decide) ?_
                refine J_goto (tgt := 105) (dk okX12_worked 41 rfl) (by decide) ?_
                refine J_sub (ls' := []) [] rfl ?_
                (try simp only [if_pos h14] at K16 ⊢); exact K16
/-- VotingFloor$Floor.burden(II)I -/
def v_X1_burden (b : Nat) (p0 : Int32) (p1 : Int32) (μ : Mm) : Int32 := (if (v_X1_has b p0 μ) = 0 then (-1) else (if p1 < 0 then (-1) else (if p1 ≤ 9 then (if (μ.1 (b + 4) (Int32.toNatClampNeg p0)) = p1 then (-2) else (μ.1 (b + 4) (Int32.toNatClampNeg p0)) : Int32) else (-1))))
def e_X1_burden (b : Nat) (p0 : Int32) (p1 : Int32) (μ : Mm) : Mm := (if (v_X1_has b p0 μ) = 0 then μ else (if p1 < 0 then μ else (if p1 ≤ 9 then (let μ6 : Mm := (upI μ (b + 4) (Int32.toNatClampNeg p0) p1); μ6) else μ)))
def p_X1_burden (b : Nat) (p0 : Int32) (p1 : Int32)  (μ : Mm) : Prop := (¬ ((v_X1_has b p0 μ) = 0) → (¬ (p1 < 0) → (p1 ≤ 9 → (vp_in p0 7) ∧ vp_in p0 7)))
set_option maxRecDepth 20000 in
set_option maxHeartbeats 4000000 in
theorem con_X1_burden {E : Ex} {Q : Option Value → Mm → Prop} {b : Nat} {p0 : Int32} {p1 : Int32} {μ : Mm} (hb : FloorAt b) (t : p_X1_burden b p0 p1  μ) (k : Q (some (.int (v_X1_burden b p0 p1 μ))) (e_X1_burden b p0 p1 μ)) : Con E 2 mX1_burden [rf E b, .int p0, .int p1] μ Q := by
  refine Con_J (by decide +kernel) (Nat.le_of_ble_eq_true rfl) (fun G => ?_)
  unfold v_X1_burden e_X1_burden at k
  unfold p_X1_burden at t
  refine J_sub (ls' := [(0, rf E b), (1, .int p0), (2, .int p1)]) [0, 1, 2] rfl ?_
  refine J_aload_n (dk okX1_burden 0 rfl) 0 rfl rfl ?_
  refine J_iload_n (dk okX1_burden 1 rfl) 1 rfl rfl ?_
  refine J_callVi (As := [.int p0]) (dk okX1_burden 2 rfl) hb.1 rfl vkX1_has lkX1_45 rfl rfl (Nat.le_of_ble_eq_true rfl) (by decide) (con_X1_has hb ⟨_, rfl, ?_⟩)
  refine J_if_eq (tgt := 18) (dk okX1_burden 3 rfl) (by decide) (fun h1 => ?_) (fun h1 => ?_)
  · refine J_iconst (v := (-1)) (dk okX1_burden 9 rfl) (by decide) ?_
    (try simp only [if_pos h1] at k ⊢)
    exact J_iret (dk okX1_burden 10 rfl) rfl k
  · have t := t h1
    refine J_iload_n (dk okX1_burden 4 rfl) 2 rfl rfl ?_
    refine J_if_lt (tgt := 18) (dk okX1_burden 5 rfl) (by decide) (fun h2 => ?_) (fun h2 => ?_)
    · refine J_iconst (v := (-1)) (dk okX1_burden 9 rfl) (by decide) ?_
      (try simp only [if_neg h1, if_pos h2] at k ⊢)
      exact J_iret (dk okX1_burden 10 rfl) rfl k
    · have t := t h2
      refine J_iload_n (dk okX1_burden 6 rfl) 2 rfl rfl ?_
      refine J_bipush (v := 9) (dk okX1_burden 7 rfl) (by decide) ?_
      refine J_icmp_le (tgt := 20) (dk okX1_burden 8 rfl) (by decide) (fun h3 => ?_) (fun h3 => ?_)
      · have t := t h3
        refine J_aload_n (dk okX1_burden 11 rfl) 0 rfl rfl ?_
        refine J_getR (dk okX1_burden 12 rfl) kfX1_25 hb.1 rfl ?_
        refine J_iload_n (dk okX1_burden 13 rfl) 1 rfl rfl ?_
        obtain ⟨s4, t⟩ := t
        refine J_iald (dk okX1_burden 14 rfl) hb.2.2.2.2.1 s4 ?_
        refine J_istore_n (ls' := [(3, _), (0, _), (1, _), (2, _)]) (dk okX1_burden 15 rfl) rfl (by decide) rfl ?_
        refine J_aload_n (dk okX1_burden 16 rfl) 1 rfl rfl ?_
        refine J_getR (dk okX1_burden 17 rfl) kfX1_25 hb.1 rfl ?_
        refine J_iload_n (dk okX1_burden 18 rfl) 2 rfl rfl ?_
        refine J_iload_n (dk okX1_burden 19 rfl) 3 rfl rfl ?_
        have s5 := t
        refine J_iast (dk okX1_burden 20 rfl) hb.2.2.2.2.1 s5 ?_
        refine J_nm (fun μ6 eμ6 => ?_)
        refine J_iload_n (dk okX1_burden 21 rfl) 0 rfl rfl ?_
        refine J_iload_n (dk okX1_burden 22 rfl) 3 rfl rfl ?_
        have K8 : J E G 2 mX1_burden Q 45 [] [.int (if (μ.1 (b + 4) (Int32.toNatClampNeg p0)) = p1 then (-2) else (μ.1 (b + 4) (Int32.toNatClampNeg p0)) : Int32)] μ6 := by
          subst eμ6
          (try simp only [if_neg h1, if_neg h2, if_pos h3] at k ⊢)
          exact J_iret (dk okX1_burden 27 rfl) rfl k
        refine J_icmp_ne (tgt := 44) (dk okX1_burden 23 rfl) (by decide) (fun h7 => ?_) (fun h7 => ?_)
        · refine J_iload_n (dk okX1_burden 26 rfl) 0 rfl rfl ?_
          refine J_sub (ls' := []) [] rfl ?_
          (try simp only [if_neg h7] at K8 ⊢); exact K8
        · refine J_bipush (v := (-2)) (dk okX1_burden 24 rfl) (by decide) ?_
          refine J_goto (tgt := 45) (dk okX1_burden 25 rfl) (by decide) ?_
          refine J_sub (ls' := []) [] rfl ?_
          (try simp only [if_pos h7] at K8 ⊢); exact K8
      · refine J_iconst (v := (-1)) (dk okX1_burden 9 rfl) (by decide) ?_
        (try simp only [if_neg h1, if_neg h2, if_neg h3] at k ⊢)
        exact J_iret (dk okX1_burden 10 rfl) rfl k
/-- VotingFloor$Floor.lead(II)I -/
def v_X1_lead (b : Nat) (p0 : Int32) (p1 : Int32) (μ : Mm) : Int32 := (if (v_X1_has b p0 μ) = 0 then (-1) else (if p1 < (-9) then (-1) else (if p1 ≤ 9 then (if (if 0 ≤ (p1 - (μ.1 (b + 3) (Int32.toNatClampNeg p0))) then (p1 - (μ.1 (b + 3) (Int32.toNatClampNeg p0))) else 0 - (p1 - (μ.1 (b + 3) (Int32.toNatClampNeg p0)))) = 0 then (-2) else (if 0 ≤ (p1 - (μ.1 (b + 3) (Int32.toNatClampNeg p0))) then (p1 - (μ.1 (b + 3) (Int32.toNatClampNeg p0))) else 0 - (p1 - (μ.1 (b + 3) (Int32.toNatClampNeg p0)))) : Int32) else (-1))))
def e_X1_lead (b : Nat) (p0 : Int32) (p1 : Int32) (μ : Mm) : Mm := (if (v_X1_has b p0 μ) = 0 then μ else (if p1 < (-9) then μ else (if p1 ≤ 9 then (let μ6 : Mm := (upI μ (b + 3) (Int32.toNatClampNeg p0) p1); μ6) else μ)))
def p_X1_lead (b : Nat) (p0 : Int32) (p1 : Int32)  (μ : Mm) : Prop := (¬ ((v_X1_has b p0 μ) = 0) → (¬ (p1 < (-9)) → (p1 ≤ 9 → (vp_in p0 7) ∧ vp_in p0 7)))
set_option maxRecDepth 20000 in
set_option maxHeartbeats 4000000 in
theorem con_X1_lead {E : Ex} {Q : Option Value → Mm → Prop} {b : Nat} {p0 : Int32} {p1 : Int32} {μ : Mm} (hb : FloorAt b) (t : p_X1_lead b p0 p1  μ) (k : Q (some (.int (v_X1_lead b p0 p1 μ))) (e_X1_lead b p0 p1 μ)) : Con E 2 mX1_lead [rf E b, .int p0, .int p1] μ Q := by
  refine Con_J (by decide +kernel) (Nat.le_of_ble_eq_true rfl) (fun G => ?_)
  unfold v_X1_lead e_X1_lead at k
  unfold p_X1_lead at t
  refine J_sub (ls' := [(0, rf E b), (1, .int p0), (2, .int p1)]) [0, 1, 2] rfl ?_
  refine J_aload_n (dk okX1_lead 0 rfl) 0 rfl rfl ?_
  refine J_iload_n (dk okX1_lead 1 rfl) 1 rfl rfl ?_
  refine J_callVi (As := [.int p0]) (dk okX1_lead 2 rfl) hb.1 rfl vkX1_has lkX1_45 rfl rfl (Nat.le_of_ble_eq_true rfl) (by decide) (con_X1_has hb ⟨_, rfl, ?_⟩)
  refine J_if_eq (tgt := 20) (dk okX1_lead 3 rfl) (by decide) (fun h1 => ?_) (fun h1 => ?_)
  · refine J_iconst (v := (-1)) (dk okX1_lead 10 rfl) (by decide) ?_
    (try simp only [if_pos h1] at k ⊢)
    exact J_iret (dk okX1_lead 11 rfl) rfl k
  · have t := t h1
    refine J_iload_n (dk okX1_lead 4 rfl) 2 rfl rfl ?_
    refine J_bipush (v := (-9)) (dk okX1_lead 5 rfl) (by decide) ?_
    refine J_icmp_lt (tgt := 20) (dk okX1_lead 6 rfl) (by decide) (fun h2 => ?_) (fun h2 => ?_)
    · refine J_iconst (v := (-1)) (dk okX1_lead 10 rfl) (by decide) ?_
      (try simp only [if_neg h1, if_pos h2] at k ⊢)
      exact J_iret (dk okX1_lead 11 rfl) rfl k
    · have t := t h2
      refine J_iload_n (dk okX1_lead 7 rfl) 2 rfl rfl ?_
      refine J_bipush (v := 9) (dk okX1_lead 8 rfl) (by decide) ?_
      refine J_icmp_le (tgt := 22) (dk okX1_lead 9 rfl) (by decide) (fun h3 => ?_) (fun h3 => ?_)
      · have t := t h3
        refine J_iload_n (dk okX1_lead 12 rfl) 2 rfl rfl ?_
        refine J_aload_n (dk okX1_lead 13 rfl) 0 rfl rfl ?_
        refine J_getR (dk okX1_lead 14 rfl) kfX1_22 hb.1 rfl ?_
        refine J_iload_n (dk okX1_lead 15 rfl) 1 rfl rfl ?_
        obtain ⟨s4, t⟩ := t
        refine J_iald (dk okX1_lead 16 rfl) hb.2.2.2.1 s4 ?_
        refine J_isub (dk okX1_lead 17 rfl) ?_
        refine J_mabs (dk okX1_lead 18 rfl) lkX1_63 mk_abs_s mk_Math mk_abs_c (by decide) (Nat.le_of_ble_eq_true rfl) ?_
        refine J_istore_n (ls' := [(3, _), (0, _), (1, _), (2, _)]) (dk okX1_lead 19 rfl) rfl (by decide) rfl ?_
        refine J_aload_n (dk okX1_lead 20 rfl) 1 rfl rfl ?_
        refine J_getR (dk okX1_lead 21 rfl) kfX1_22 hb.1 rfl ?_
        refine J_iload_n (dk okX1_lead 22 rfl) 2 rfl rfl ?_
        refine J_iload_n (dk okX1_lead 23 rfl) 3 rfl rfl ?_
        have s5 := t
        refine J_iast (dk okX1_lead 24 rfl) hb.2.2.2.1 s5 ?_
        refine J_nm (fun μ6 eμ6 => ?_)
        refine J_iload_n (dk okX1_lead 25 rfl) 0 rfl rfl ?_
        have K8 : J E G 2 mX1_lead Q 51 [] [.int (if (if 0 ≤ (p1 - (μ.1 (b + 3) (Int32.toNatClampNeg p0))) then (p1 - (μ.1 (b + 3) (Int32.toNatClampNeg p0))) else 0 - (p1 - (μ.1 (b + 3) (Int32.toNatClampNeg p0)))) = 0 then (-2) else (if 0 ≤ (p1 - (μ.1 (b + 3) (Int32.toNatClampNeg p0))) then (p1 - (μ.1 (b + 3) (Int32.toNatClampNeg p0))) else 0 - (p1 - (μ.1 (b + 3) (Int32.toNatClampNeg p0)))) : Int32)] μ6 := by
          subst eμ6
          (try simp only [if_neg h1, if_neg h2, if_pos h3] at k ⊢)
          exact J_iret (dk okX1_lead 30 rfl) rfl k
        refine J_if_ne (tgt := 50) (dk okX1_lead 26 rfl) (by decide) (fun h7 => ?_) (fun h7 => ?_)
        · refine J_iload_n (dk okX1_lead 29 rfl) 0 rfl rfl ?_
          refine J_sub (ls' := []) [] rfl ?_
          (try simp only [if_neg h7] at K8 ⊢); exact K8
        · refine J_bipush (v := (-2)) (dk okX1_lead 27 rfl) (by decide) ?_
          refine J_goto (tgt := 51) (dk okX1_lead 28 rfl) (by decide) ?_
          refine J_sub (ls' := []) [] rfl ?_
          (try simp only [if_pos h7] at K8 ⊢); exact K8
      · refine J_iconst (v := (-1)) (dk okX1_lead 10 rfl) (by decide) ?_
        (try simp only [if_neg h1, if_neg h2, if_neg h3] at k ⊢)
        exact J_iret (dk okX1_lead 11 rfl) rfl k
/-- VotingFloor$Floor.load(I)I -/
def v_X1_load (b : Nat) (p0 : Int32) (μ : Mm) : Int32 := (if (v_X1_has b p0 μ) = 0 then 0 else ((μ.1 (b + 1) (Int32.toNatClampNeg p0)) + (μ.1 (b + 4) (Int32.toNatClampNeg p0))) : Int32)
def p_X1_load (b : Nat) (p0 : Int32)  (μ : Mm) : Prop := (¬ ((v_X1_has b p0 μ) = 0) → (vp_in p0 7) ∧ vp_in p0 7)
set_option maxRecDepth 20000 in
set_option maxHeartbeats 4000000 in
theorem con_X1_load {E : Ex} {Q : Option Value → Mm → Prop} {b : Nat} {p0 : Int32} {μ : Mm} (hb : FloorAt b) (t : p_X1_load b p0  μ) (k : Q (some (.int (v_X1_load b p0 μ))) μ) : Con E 2 mX1_load [rf E b, .int p0] μ Q := by
  refine Con_J (by decide +kernel) (Nat.le_of_ble_eq_true rfl) (fun G => ?_)
  unfold v_X1_load at k
  unfold p_X1_load at t
  refine J_sub (ls' := [(0, rf E b), (1, .int p0)]) [0, 1] rfl ?_
  refine J_aload_n (dk okX1_load 0 rfl) 0 rfl rfl ?_
  refine J_iload_n (dk okX1_load 1 rfl) 1 rfl rfl ?_
  refine J_callVi (As := [.int p0]) (dk okX1_load 2 rfl) hb.1 rfl vkX1_has lkX1_45 rfl rfl (Nat.le_of_ble_eq_true rfl) (by decide) (con_X1_has hb ⟨_, rfl, ?_⟩)
  have K4 : J E G 2 mX1_load Q 25 [] [.int (if (v_X1_has b p0 μ) = 0 then 0 else ((μ.1 (b + 1) (Int32.toNatClampNeg p0)) + (μ.1 (b + 4) (Int32.toNatClampNeg p0))) : Int32)] μ := by
    exact J_iret (dk okX1_load 15 rfl) rfl k
  refine J_if_eq (tgt := 24) (dk okX1_load 3 rfl) (by decide) (fun h1 => ?_) (fun h1 => ?_)
  · refine J_iconst (v := 0) (dk okX1_load 14 rfl) (by decide) ?_
    refine J_sub (ls' := []) [] rfl ?_
    (try simp only [if_pos h1] at K4 ⊢); exact K4
  · have t := t h1
    refine J_aload_n (dk okX1_load 4 rfl) 0 rfl rfl ?_
    refine J_getR (dk okX1_load 5 rfl) kfX1_15 hb.1 rfl ?_
    refine J_iload_n (dk okX1_load 6 rfl) 1 rfl rfl ?_
    obtain ⟨s2, t⟩ := t
    refine J_iald (dk okX1_load 7 rfl) hb.2.1 s2 ?_
    refine J_aload_n (dk okX1_load 8 rfl) 0 rfl rfl ?_
    refine J_getR (dk okX1_load 9 rfl) kfX1_25 hb.1 rfl ?_
    refine J_iload_n (dk okX1_load 10 rfl) 1 rfl rfl ?_
    have s3 := t
    refine J_iald (dk okX1_load 11 rfl) hb.2.2.2.2.1 s3 ?_
    refine J_iadd (dk okX1_load 12 rfl) ?_
    refine J_goto (tgt := 25) (dk okX1_load 13 rfl) (by decide) ?_
    refine J_sub (ls' := []) [] rfl ?_
    (try simp only [if_neg h1] at K4 ⊢); exact K4
/-- VotingFloor$Floor.placeOf(I)I -/
def v_X1_placeOf (b : Nat) (p0 : Int32) (μ : Mm) : Int32 := (if (v_X1_has b p0 μ) = 0 then 0 else (μ.1 (b + 3) (Int32.toNatClampNeg p0)) : Int32)
def p_X1_placeOf (b : Nat) (p0 : Int32)  (μ : Mm) : Prop := (¬ ((v_X1_has b p0 μ) = 0) → vp_in p0 7)
set_option maxRecDepth 20000 in
set_option maxHeartbeats 4000000 in
theorem con_X1_placeOf {E : Ex} {Q : Option Value → Mm → Prop} {b : Nat} {p0 : Int32} {μ : Mm} (hb : FloorAt b) (t : p_X1_placeOf b p0  μ) (k : Q (some (.int (v_X1_placeOf b p0 μ))) μ) : Con E 2 mX1_placeOf [rf E b, .int p0] μ Q := by
  refine Con_J (by decide +kernel) (Nat.le_of_ble_eq_true rfl) (fun G => ?_)
  unfold v_X1_placeOf at k
  unfold p_X1_placeOf at t
  refine J_sub (ls' := [(0, rf E b), (1, .int p0)]) [0, 1] rfl ?_
  refine J_aload_n (dk okX1_placeOf 0 rfl) 0 rfl rfl ?_
  refine J_iload_n (dk okX1_placeOf 1 rfl) 1 rfl rfl ?_
  refine J_callVi (As := [.int p0]) (dk okX1_placeOf 2 rfl) hb.1 rfl vkX1_has lkX1_45 rfl rfl (Nat.le_of_ble_eq_true rfl) (by decide) (con_X1_has hb ⟨_, rfl, ?_⟩)
  have K3 : J E G 2 mX1_placeOf Q 18 [] [.int (if (v_X1_has b p0 μ) = 0 then 0 else (μ.1 (b + 3) (Int32.toNatClampNeg p0)) : Int32)] μ := by
    exact J_iret (dk okX1_placeOf 10 rfl) rfl k
  refine J_if_eq (tgt := 17) (dk okX1_placeOf 3 rfl) (by decide) (fun h1 => ?_) (fun h1 => ?_)
  · refine J_iconst (v := 0) (dk okX1_placeOf 9 rfl) (by decide) ?_
    refine J_sub (ls' := []) [] rfl ?_
    (try simp only [if_pos h1] at K3 ⊢); exact K3
  · have t := t h1
    refine J_aload_n (dk okX1_placeOf 4 rfl) 0 rfl rfl ?_
    refine J_getR (dk okX1_placeOf 5 rfl) kfX1_22 hb.1 rfl ?_
    refine J_iload_n (dk okX1_placeOf 6 rfl) 1 rfl rfl ?_
    have s2 := t
    refine J_iald (dk okX1_placeOf 7 rfl) hb.2.2.2.1 s2 ?_
    refine J_goto (tgt := 18) (dk okX1_placeOf 8 rfl) (by decide) ?_
    refine J_sub (ls' := []) [] rfl ?_
    (try simp only [if_neg h1] at K3 ⊢); exact K3
/-- VotingFloor$Floor.stepOffOrOn(I)I -/
def v_X1_stepOffOrOn (b : Nat) (p0 : Int32) (μ : Mm) : Int32 := (if (v_X1_has b p0 μ) = 0 then (-1) else (let μ2 : Mm := (upI μ b 5 ((μ.1 b 5) ^^^ (1 <<< (p0 &&& 31)))); (v_J6_bitCount_0f7a4 (v_X1_present b μ2))))
def e_X1_stepOffOrOn (b : Nat) (p0 : Int32) (μ : Mm) : Mm := (if (v_X1_has b p0 μ) = 0 then μ else (let μ2 : Mm := (upI μ b 5 ((μ.1 b 5) ^^^ (1 <<< (p0 &&& 31)))); μ2))
set_option maxRecDepth 20000 in
set_option maxHeartbeats 4000000 in
theorem con_X1_stepOffOrOn {E : Ex} {Q : Option Value → Mm → Prop} {b : Nat} {p0 : Int32} {μ : Mm} (hb : FloorAt b) (k : Q (some (.int (v_X1_stepOffOrOn b p0 μ))) (e_X1_stepOffOrOn b p0 μ)) : Con E 2 mX1_stepOffOrOn [rf E b, .int p0] μ Q := by
  refine Con_J (by decide +kernel) (Nat.le_of_ble_eq_true rfl) (fun G => ?_)
  unfold v_X1_stepOffOrOn e_X1_stepOffOrOn at k
  refine J_sub (ls' := [(0, rf E b), (1, .int p0)]) [0, 1] rfl ?_
  refine J_aload_n (dk okX1_stepOffOrOn 0 rfl) 0 rfl rfl ?_
  refine J_iload_n (dk okX1_stepOffOrOn 1 rfl) 1 rfl rfl ?_
  refine J_callVi (As := [.int p0]) (dk okX1_stepOffOrOn 2 rfl) hb.1 rfl vkX1_has lkX1_45 rfl rfl (Nat.le_of_ble_eq_true rfl) (by decide) (con_X1_has hb ⟨_, rfl, ?_⟩)
  refine J_if_ne (tgt := 10) (dk okX1_stepOffOrOn 3 rfl) (by decide) (fun h1 => ?_) (fun h1 => ?_)
  · refine J_aload_n (dk okX1_stepOffOrOn 6 rfl) 0 rfl rfl ?_
    refine J_dup (dk okX1_stepOffOrOn 7 rfl) rfl ?_
    refine J_getI (dk okX1_stepOffOrOn 8 rfl) kfX1_28 hb.1 rfl ?_
    refine J_iconst (v := 1) (dk okX1_stepOffOrOn 9 rfl) (by decide) ?_
    refine J_iload_n (dk okX1_stepOffOrOn 10 rfl) 1 rfl rfl ?_
    refine J_ishl (dk okX1_stepOffOrOn 11 rfl) ?_
    refine J_ixor (dk okX1_stepOffOrOn 12 rfl) ?_
    refine J_put (dk okX1_stepOffOrOn 13 rfl) kpX1_28 hb.1 rfl rfl rfl ?_
    refine J_nm (fun μ2 eμ2 => ?_)
    refine J_aload_n (dk okX1_stepOffOrOn 14 rfl) 0 rfl rfl ?_
    refine J_callVi (As := []) (dk okX1_stepOffOrOn 15 rfl) hb.1 rfl vkX1_present lkX1_68 rfl rfl (Nat.le_of_ble_eq_true rfl) (by decide) (con_X1_present hb ⟨_, rfl, ?_⟩)
    refine J_callSi (As := [.int (v_X1_present b μ2)]) (dk okX1_stepOffOrOn 16 rfl) skJ6_bitCount_0f7a4 lkX1_72 rfl rfl (Nat.le_of_ble_eq_true rfl) (by decide) (con_J6_bitCount_0f7a4  ⟨_, rfl, ?_⟩)
    subst eμ2
    (try simp only [if_neg h1] at k ⊢)
    exact J_iret (dk okX1_stepOffOrOn 17 rfl) rfl k
  · refine J_iconst (v := (-1)) (dk okX1_stepOffOrOn 4 rfl) (by decide) ?_
    (try simp only [if_pos h1] at k ⊢)
    exact J_iret (dk okX1_stepOffOrOn 5 rfl) rfl k
/-- VotingFloor$Floor.turn(II)I -/
def v_X1_turn (b : Nat) (p0 : Int32) (p1 : Int32) (μ : Mm) : Int32 := (if (v_X1_has b p0 μ) = 0 then (-1) else (if p1 < (-9) then (-1) else (if p1 ≤ 9 then (if (μ.1 (b + 2) (Int32.toNatClampNeg p0)) = p1 then (-2) else (100 + (μ.1 (b + 2) (Int32.toNatClampNeg p0))) : Int32) else (-1))))
def e_X1_turn (b : Nat) (p0 : Int32) (p1 : Int32) (μ : Mm) : Mm := (if (v_X1_has b p0 μ) = 0 then μ else (if p1 < (-9) then μ else (if p1 ≤ 9 then (let μ6 : Mm := (upI μ (b + 2) (Int32.toNatClampNeg p0) p1); μ6) else μ)))
def p_X1_turn (b : Nat) (p0 : Int32) (p1 : Int32)  (μ : Mm) : Prop := (¬ ((v_X1_has b p0 μ) = 0) → (¬ (p1 < (-9)) → (p1 ≤ 9 → (vp_in p0 7) ∧ vp_in p0 7)))
set_option maxRecDepth 20000 in
set_option maxHeartbeats 4000000 in
theorem con_X1_turn {E : Ex} {Q : Option Value → Mm → Prop} {b : Nat} {p0 : Int32} {p1 : Int32} {μ : Mm} (hb : FloorAt b) (t : p_X1_turn b p0 p1  μ) (k : Q (some (.int (v_X1_turn b p0 p1 μ))) (e_X1_turn b p0 p1 μ)) : Con E 2 mX1_turn [rf E b, .int p0, .int p1] μ Q := by
  refine Con_J (by decide +kernel) (Nat.le_of_ble_eq_true rfl) (fun G => ?_)
  unfold v_X1_turn e_X1_turn at k
  unfold p_X1_turn at t
  refine J_sub (ls' := [(0, rf E b), (1, .int p0), (2, .int p1)]) [0, 1, 2] rfl ?_
  refine J_aload_n (dk okX1_turn 0 rfl) 0 rfl rfl ?_
  refine J_iload_n (dk okX1_turn 1 rfl) 1 rfl rfl ?_
  refine J_callVi (As := [.int p0]) (dk okX1_turn 2 rfl) hb.1 rfl vkX1_has lkX1_45 rfl rfl (Nat.le_of_ble_eq_true rfl) (by decide) (con_X1_has hb ⟨_, rfl, ?_⟩)
  refine J_if_eq (tgt := 20) (dk okX1_turn 3 rfl) (by decide) (fun h1 => ?_) (fun h1 => ?_)
  · refine J_iconst (v := (-1)) (dk okX1_turn 10 rfl) (by decide) ?_
    (try simp only [if_pos h1] at k ⊢)
    exact J_iret (dk okX1_turn 11 rfl) rfl k
  · have t := t h1
    refine J_iload_n (dk okX1_turn 4 rfl) 2 rfl rfl ?_
    refine J_bipush (v := (-9)) (dk okX1_turn 5 rfl) (by decide) ?_
    refine J_icmp_lt (tgt := 20) (dk okX1_turn 6 rfl) (by decide) (fun h2 => ?_) (fun h2 => ?_)
    · refine J_iconst (v := (-1)) (dk okX1_turn 10 rfl) (by decide) ?_
      (try simp only [if_neg h1, if_pos h2] at k ⊢)
      exact J_iret (dk okX1_turn 11 rfl) rfl k
    · have t := t h2
      refine J_iload_n (dk okX1_turn 7 rfl) 2 rfl rfl ?_
      refine J_bipush (v := 9) (dk okX1_turn 8 rfl) (by decide) ?_
      refine J_icmp_le (tgt := 22) (dk okX1_turn 9 rfl) (by decide) (fun h3 => ?_) (fun h3 => ?_)
      · have t := t h3
        refine J_aload_n (dk okX1_turn 12 rfl) 0 rfl rfl ?_
        refine J_getR (dk okX1_turn 13 rfl) kfX1_19 hb.1 rfl ?_
        refine J_iload_n (dk okX1_turn 14 rfl) 1 rfl rfl ?_
        obtain ⟨s4, t⟩ := t
        refine J_iald (dk okX1_turn 15 rfl) hb.2.2.1 s4 ?_
        refine J_istore_n (ls' := [(3, _), (0, _), (1, _), (2, _)]) (dk okX1_turn 16 rfl) rfl (by decide) rfl ?_
        refine J_aload_n (dk okX1_turn 17 rfl) 1 rfl rfl ?_
        refine J_getR (dk okX1_turn 18 rfl) kfX1_19 hb.1 rfl ?_
        refine J_iload_n (dk okX1_turn 19 rfl) 2 rfl rfl ?_
        refine J_iload_n (dk okX1_turn 20 rfl) 3 rfl rfl ?_
        have s5 := t
        refine J_iast (dk okX1_turn 21 rfl) hb.2.2.1 s5 ?_
        refine J_nm (fun μ6 eμ6 => ?_)
        refine J_iload_n (dk okX1_turn 22 rfl) 0 rfl rfl ?_
        refine J_iload_n (dk okX1_turn 23 rfl) 3 rfl rfl ?_
        have K8 : J E G 2 mX1_turn Q 50 [] [.int (if (μ.1 (b + 2) (Int32.toNatClampNeg p0)) = p1 then (-2) else (100 + (μ.1 (b + 2) (Int32.toNatClampNeg p0))) : Int32)] μ6 := by
          subst eμ6
          (try simp only [if_neg h1, if_neg h2, if_pos h3] at k ⊢)
          exact J_iret (dk okX1_turn 30 rfl) rfl k
        refine J_icmp_ne (tgt := 46) (dk okX1_turn 24 rfl) (by decide) (fun h7 => ?_) (fun h7 => ?_)
        · refine J_bipush (v := 100) (dk okX1_turn 27 rfl) (by decide) ?_
          refine J_iload_n (dk okX1_turn 28 rfl) 0 rfl rfl ?_
          refine J_iadd (dk okX1_turn 29 rfl) ?_
          refine J_sub (ls' := []) [] rfl ?_
          (try simp only [if_neg h7] at K8 ⊢); exact K8
        · refine J_bipush (v := (-2)) (dk okX1_turn 25 rfl) (by decide) ?_
          refine J_goto (tgt := 50) (dk okX1_turn 26 rfl) (by decide) ?_
          refine J_sub (ls' := []) [] rfl ?_
          (try simp only [if_pos h7] at K8 ⊢); exact K8
      · refine J_iconst (v := (-1)) (dk okX1_turn 10 rfl) (by decide) ?_
        (try simp only [if_neg h1, if_neg h2, if_neg h3] at k ⊢)
        exact J_iret (dk okX1_turn 11 rfl) rfl k
/-- VotingFloor$Past.commit()V -/
def e_X3_commit  (μ : Mm) : Mm := (let μ1 : Mm := (upI μ 29 1 (((μ.1 29 1) + 1) - ((μ.1 29 1) + 1) / 16 * 16)); (let μ2 : Mm := (upI μ1 29 2 (if 15 < ((μ1.1 29 2) + 1) then 15 else ((μ1.1 29 2) + 1))); μ2))
set_option maxRecDepth 20000 in
set_option maxHeartbeats 4000000 in
theorem con_X3_commit {E : Ex} {Q : Option Value → Mm → Prop} {μ : Mm} (k : Q none (e_X3_commit  μ)) : Con E 2 mX3_commit [rf E 29] μ Q := by
  refine Con_J (by decide +kernel) (Nat.le_of_ble_eq_true rfl) (fun G => ?_)
  unfold e_X3_commit at k
  refine J_sub (ls' := [(0, rf E 29)]) [0] rfl ?_
  refine J_aload_n (dk okX3_commit 0 rfl) 0 rfl rfl ?_
  refine J_aload_n (dk okX3_commit 1 rfl) 0 rfl rfl ?_
  refine J_getI (dk okX3_commit 2 rfl) kfX3_15 ds_29 rfl ?_
  refine J_iconst (v := 1) (dk okX3_commit 3 rfl) (by decide) ?_
  refine J_iadd (dk okX3_commit 4 rfl) ?_
  refine J_bipush (v := 16) (dk okX3_commit 5 rfl) (by decide) ?_
  refine J_irem (dk okX3_commit 6 rfl) (by decide) ?_
  refine J_put (dk okX3_commit 7 rfl) kpX3_15 ds_29 rfl rfl rfl ?_
  refine J_nm (fun μ1 eμ1 => ?_)
  refine J_aload_n (dk okX3_commit 8 rfl) 0 rfl rfl ?_
  refine J_aload_n (dk okX3_commit 9 rfl) 0 rfl rfl ?_
  refine J_getI (dk okX3_commit 10 rfl) kfX3_19 ds_29 rfl ?_
  refine J_iconst (v := 1) (dk okX3_commit 11 rfl) (by decide) ?_
  refine J_iadd (dk okX3_commit 12 rfl) ?_
  refine J_bipush (v := 15) (dk okX3_commit 13 rfl) (by decide) ?_
  refine J_mmin (dk okX3_commit 14 rfl) lkX3_33 mk_min_s mk_Math mk_min_c (by decide) (Nat.le_of_ble_eq_true rfl) ?_
  refine J_put (dk okX3_commit 15 rfl) kpX3_19 ds_29 rfl rfl rfl ?_
  refine J_nm (fun μ2 eμ2 => ?_)
  subst eμ2 eμ1
  exact J_vret (dk okX3_commit 16 rfl) rfl k
/-- VotingFloor$Rule.becomeNone()V -/
def e_X5_becomeNone (b : Nat) (μ : Mm) : Mm := (let μ2 : Mm := (e_X5_emit b (-1) μ); (let μ4 : Mm := (e_X5_emit b (-2) μ2); (let μ6 : Mm := (e_X5_emit b (-45) μ4); μ6)))
def p_X5_becomeNone (b : Nat)  (μ : Mm) : Prop := (p_X5_emit b (-1) μ) ∧ (∀ μ2 : Mm, μ2 = (e_X5_emit b (-1) μ) → (p_X5_emit b (-2) μ2) ∧ (∀ μ4 : Mm, μ4 = (e_X5_emit b (-2) μ2) → p_X5_emit b (-45) μ4))
set_option maxRecDepth 20000 in
set_option maxHeartbeats 4000000 in
theorem con_X5_becomeNone {E : Ex} {Q : Option Value → Mm → Prop} {b : Nat} {μ : Mm} (hb : RuleAt b) (t : p_X5_becomeNone b  μ) (k : Q none (e_X5_becomeNone b μ)) : Con E 2 mX5_becomeNone [rf E b] μ Q := by
  refine Con_J (by decide +kernel) (Nat.le_of_ble_eq_true rfl) (fun G => ?_)
  unfold e_X5_becomeNone at k
  unfold p_X5_becomeNone at t
  refine J_sub (ls' := [(0, rf E b)]) [0] rfl ?_
  refine J_aload_n (dk okX5_becomeNone 0 rfl) 0 rfl rfl ?_
  refine J_iconst (v := (-1)) (dk okX5_becomeNone 1 rfl) (by decide) ?_
  obtain ⟨s1, t⟩ := t
  refine J_callVv (As := [.int (-1)]) (dk okX5_becomeNone 2 rfl) hb.1 rfl vkX5_emit lkX5_78 rfl rfl (Nat.le_of_ble_eq_true rfl) (by decide) (con_X5_emit hb s1 ⟨rfl, ?_⟩)
  refine J_nm (fun μ2 eμ2 => ?_)
  have t := t μ2 eμ2
  refine J_aload_n (dk okX5_becomeNone 3 rfl) 0 rfl rfl ?_
  refine J_bipush (v := (-2)) (dk okX5_becomeNone 4 rfl) (by decide) ?_
  obtain ⟨s3, t⟩ := t
  refine J_callVv (As := [.int (-2)]) (dk okX5_becomeNone 5 rfl) hb.1 rfl vkX5_emit lkX5_78 rfl rfl (Nat.le_of_ble_eq_true rfl) (by decide) (con_X5_emit hb s3 ⟨rfl, ?_⟩)
  refine J_nm (fun μ4 eμ4 => ?_)
  have t := t μ4 eμ4
  refine J_aload_n (dk okX5_becomeNone 6 rfl) 0 rfl rfl ?_
  refine J_bipush (v := (-45)) (dk okX5_becomeNone 7 rfl) (by decide) ?_
  have s5 := t
  refine J_callVv (As := [.int (-45)]) (dk okX5_becomeNone 8 rfl) hb.1 rfl vkX5_emit lkX5_78 rfl rfl (Nat.le_of_ble_eq_true rfl) (by decide) (con_X5_emit hb s5 ⟨rfl, ?_⟩)
  refine J_nm (fun μ6 eμ6 => ?_)
  subst eμ6 eμ4 eμ2
  exact J_vret (dk okX5_becomeNone 9 rfl) rfl k
/-- VotingFloor$Rule.open()Z -/
def v_X5_open (b : Nat) (μ : Mm) : Int32 := (if (μ.1 b 6) < 4 then 1 else 0)
def e_X5_open (b : Nat) (μ : Mm) : Mm := (if (μ.1 b 6) < 4 then (let μ3 : Mm := (e_X4_push (b + 3) 40 μ); (let μ4 : Mm := (upI μ3 b 6 ((μ3.1 b 6) + 1)); (let μ5 : Mm := (upI μ4 b 7 ((μ4.1 b 7) &&& ((1 <<< ((μ4.1 b 6) &&& 31)) ^^^ (-1)))); μ5))) else μ)
def p_X5_open (b : Nat)  (μ : Mm) : Prop := ((μ.1 b 6) < 4 → p_X4_push (b + 3) 40 μ)
set_option maxRecDepth 20000 in
set_option maxHeartbeats 4000000 in
theorem con_X5_open {E : Ex} {Q : Option Value → Mm → Prop} {b : Nat} {μ : Mm} (hb : RuleAt b) (t : p_X5_open b  μ) (k : Q (some (.int (v_X5_open b μ))) (e_X5_open b μ)) : Con E 2 mX5_open [rf E b] μ Q := by
  refine Con_J (by decide +kernel) (Nat.le_of_ble_eq_true rfl) (fun G => ?_)
  unfold v_X5_open e_X5_open at k
  unfold p_X5_open at t
  refine J_sub (ls' := [(0, rf E b)]) [0] rfl ?_
  refine J_aload_n (dk okX5_open 0 rfl) 0 rfl rfl ?_
  refine J_getI (dk okX5_open 1 rfl) kfX5_36 hb.1 rfl ?_
  refine J_iconst (v := 4) (dk okX5_open 2 rfl) (by decide) ?_
  refine J_icmp_lt (tgt := 10) (dk okX5_open 3 rfl) (by decide) (fun h1 => ?_) (fun h1 => ?_)
  · have t := t h1
    refine J_aload_n (dk okX5_open 6 rfl) 0 rfl rfl ?_
    refine J_getR (dk okX5_open 7 rfl) kfX5_29 hb.1 rfl ?_
    refine J_bipush (v := 40) (dk okX5_open 8 rfl) (by decide) ?_
    have s2 := t
    refine J_callVv (As := [.int 40]) (dk okX5_open 9 rfl) hb.2.2.2.1 rfl vkX4_push lkX5_81 rfl rfl (Nat.le_of_ble_eq_true rfl) (by decide) (con_X4_push (RuleAt_pile hb) s2 ⟨rfl, ?_⟩)
    refine J_nm (fun μ3 eμ3 => ?_)
    refine J_aload_n (dk okX5_open 10 rfl) 0 rfl rfl ?_
    refine J_dup (dk okX5_open 11 rfl) rfl ?_
    refine J_getI (dk okX5_open 12 rfl) kfX5_36 hb.1 rfl ?_
    refine J_iconst (v := 1) (dk okX5_open 13 rfl) (by decide) ?_
    refine J_iadd (dk okX5_open 14 rfl) ?_
    refine J_put (dk okX5_open 15 rfl) kpX5_36 hb.1 rfl rfl rfl ?_
    refine J_nm (fun μ4 eμ4 => ?_)
    refine J_aload_n (dk okX5_open 16 rfl) 0 rfl rfl ?_
    refine J_dup (dk okX5_open 17 rfl) rfl ?_
    refine J_getI (dk okX5_open 18 rfl) kfX5_39 hb.1 rfl ?_
    refine J_iconst (v := 1) (dk okX5_open 19 rfl) (by decide) ?_
    refine J_aload_n (dk okX5_open 20 rfl) 0 rfl rfl ?_
    refine J_getI (dk okX5_open 21 rfl) kfX5_36 hb.1 rfl ?_
    refine J_ishl (dk okX5_open 22 rfl) ?_
    refine J_iconst (v := (-1)) (dk okX5_open 23 rfl) (by decide) ?_
    refine J_ixor (dk okX5_open 24 rfl) ?_
    refine J_iand (dk okX5_open 25 rfl) ?_
    refine J_put (dk okX5_open 26 rfl) kpX5_39 hb.1 rfl rfl rfl ?_
    refine J_nm (fun μ5 eμ5 => ?_)
    refine J_iconst (v := 1) (dk okX5_open 27 rfl) (by decide) ?_
    subst eμ5 eμ4 eμ3
    (try simp only [if_pos h1] at k ⊢)
    exact J_zret (dk okX5_open 28 rfl) rfl rfl k
  · refine J_iconst (v := 0) (dk okX5_open 4 rfl) (by decide) ?_
    (try simp only [if_neg h1] at k ⊢)
    exact J_zret (dk okX5_open 5 rfl) rfl rfl k
theorem nb_X5_open (b : Nat) (μ : Mm) : narrow .boolean (.int (v_X5_open b μ)) = .int (v_X5_open b μ) := by
  unfold v_X5_open; (repeat' split) <;> rfl
/-- VotingFloor$Rule.startReading()V -/
def e_X5_startReading (b : Nat) (μ : Mm) : Mm := (let μ1 : Mm := (upI μ b 1 0); (let μ2 : Mm := (upI μ1 b 2 0); (let μ3 : Mm := (e_X4_clear (b + 3) μ2); (let μ4 : Mm := (upI μ3 b 5 1); (let μ5 : Mm := (upI μ4 b 6 0); (let μ6 : Mm := (upI μ5 b 7 0); (let μ7 : Mm := (upI μ6 b 8 0); μ7)))))))
set_option maxRecDepth 20000 in
set_option maxHeartbeats 4000000 in
theorem con_X5_startReading {E : Ex} {Q : Option Value → Mm → Prop} {b : Nat} {μ : Mm} (hb : RuleAt b) (k : Q none (e_X5_startReading b μ)) : Con E 2 mX5_startReading [rf E b] μ Q := by
  refine Con_J (by decide +kernel) (Nat.le_of_ble_eq_true rfl) (fun G => ?_)
  unfold e_X5_startReading at k
  refine J_sub (ls' := [(0, rf E b)]) [0] rfl ?_
  refine J_aload_n (dk okX5_startReading 0 rfl) 0 rfl rfl ?_
  refine J_iconst (v := 0) (dk okX5_startReading 1 rfl) (by decide) ?_
  refine J_put (dk okX5_startReading 2 rfl) kpX5_15 hb.1 rfl rfl rfl ?_
  refine J_nm (fun μ1 eμ1 => ?_)
  refine J_aload_n (dk okX5_startReading 3 rfl) 0 rfl rfl ?_
  refine J_iconst (v := 0) (dk okX5_startReading 4 rfl) (by decide) ?_
  refine J_put (dk okX5_startReading 5 rfl) kpX5_19 hb.1 rfl rfl rfl ?_
  refine J_nm (fun μ2 eμ2 => ?_)
  refine J_aload_n (dk okX5_startReading 6 rfl) 0 rfl rfl ?_
  refine J_getR (dk okX5_startReading 7 rfl) kfX5_29 hb.1 rfl ?_
  refine J_callVv (As := []) (dk okX5_startReading 8 rfl) hb.2.2.2.1 rfl vkX4_clear lkX5_75 rfl rfl (Nat.le_of_ble_eq_true rfl) (by decide) (con_X4_clear (RuleAt_pile hb) ⟨rfl, ?_⟩)
  refine J_nm (fun μ3 eμ3 => ?_)
  refine J_aload_n (dk okX5_startReading 9 rfl) 0 rfl rfl ?_
  refine J_iconst (v := 1) (dk okX5_startReading 10 rfl) (by decide) ?_
  refine J_put (dk okX5_startReading 11 rfl) kpX5_33 hb.1 rfl rfl rfl ?_
  refine J_nm (fun μ4 eμ4 => ?_)
  refine J_aload_n (dk okX5_startReading 12 rfl) 0 rfl rfl ?_
  refine J_iconst (v := 0) (dk okX5_startReading 13 rfl) (by decide) ?_
  refine J_put (dk okX5_startReading 14 rfl) kpX5_36 hb.1 rfl rfl rfl ?_
  refine J_nm (fun μ5 eμ5 => ?_)
  refine J_aload_n (dk okX5_startReading 15 rfl) 0 rfl rfl ?_
  refine J_iconst (v := 0) (dk okX5_startReading 16 rfl) (by decide) ?_
  refine J_put (dk okX5_startReading 17 rfl) kpX5_39 hb.1 rfl rfl rfl ?_
  refine J_nm (fun μ6 eμ6 => ?_)
  refine J_aload_n (dk okX5_startReading 18 rfl) 0 rfl rfl ?_
  refine J_iconst (v := 0) (dk okX5_startReading 19 rfl) (by decide) ?_
  refine J_put (dk okX5_startReading 20 rfl) kpX5_42 hb.1 rfl rfl rfl ?_
  refine J_nm (fun μ7 eμ7 => ?_)
  subst eμ7 eμ6 eμ5 eμ4 eμ3 eμ2 eμ1
  exact J_vret (dk okX5_startReading 21 rfl) rfl k
/-- VotingFloor$Text.digit(I)I -/
def v_X9_digit (p0 : Int32) (μ : Mm) : Int32 := ((v_X9_at p0 μ) - 48)
def p_X9_digit (p0 : Int32)  (μ : Mm) : Prop := p_X9_at p0 μ
set_option maxRecDepth 20000 in
set_option maxHeartbeats 4000000 in
theorem con_X9_digit {E : Ex} {Q : Option Value → Mm → Prop} {p0 : Int32} {μ : Mm} (t : p_X9_digit p0  μ) (k : Q (some (.int (v_X9_digit p0 μ))) μ) : Con E 2 mX9_digit [rf E 25, .int p0] μ Q := by
  refine Con_J (by decide +kernel) (Nat.le_of_ble_eq_true rfl) (fun G => ?_)
  unfold v_X9_digit at k
  unfold p_X9_digit at t
  refine J_sub (ls' := [(0, rf E 25), (1, .int p0)]) [0, 1] rfl ?_
  refine J_aload_n (dk okX9_digit 0 rfl) 0 rfl rfl ?_
  refine J_iload_n (dk okX9_digit 1 rfl) 1 rfl rfl ?_
  have s1 := t
  refine J_callVi (As := [.int p0]) (dk okX9_digit 2 rfl) ds_25 rfl vkX9_at lkX9_19 rfl rfl (Nat.le_of_ble_eq_true rfl) (by decide) (con_X9_at s1 ⟨_, rfl, ?_⟩)
  refine J_bipush (v := 48) (dk okX9_digit 3 rfl) (by decide) ?_
  refine J_isub (dk okX9_digit 4 rfl) ?_
  exact J_iret (dk okX9_digit 5 rfl) rfl k
/-- VotingFloor$Text.standsInAct(II)Z -/
def v_X9_standsInAct (p0 : Int32) (p1 : Int32) (μ : Mm) : Int32 := (if p1 = p0 then (if (v_X9_actLength (v_X9_at p0 μ)) ≤ 1 then 0 else 1 : Int32) else (if p1 = (p0 + 2) then (if (v_X9_at p0 μ) = 108 then (if (v_X9_at p1 μ) = 101 then 1 else (if (v_X9_at p1 μ) = 119 then 1 else 0 : Int32) : Int32) else (if (v_X9_at p0 μ) = 116 then (if (v_X9_at p1 μ) = 43 then 1 else (if (v_X9_at p1 μ) = 45 then 1 else 0 : Int32) : Int32) else (v_X9_isDigit (v_X9_at p1 μ)))) else (v_X9_isDigit (v_X9_at p1 μ))))
def p_X9_standsInAct (p0 : Int32) (p1 : Int32)  (μ : Mm) : Prop := (p_X9_at p0 μ) ∧ p_X9_at p1 μ
set_option maxRecDepth 20000 in
set_option maxHeartbeats 4000000 in
theorem con_X9_standsInAct {E : Ex} {Q : Option Value → Mm → Prop} {p0 : Int32} {p1 : Int32} {μ : Mm} (t : p_X9_standsInAct p0 p1  μ) (k : Q (some (.int (v_X9_standsInAct p0 p1 μ))) μ) : Con E 2 mX9_standsInAct [rf E 25, .int p0, .int p1] μ Q := by
  refine Con_J (by decide +kernel) (Nat.le_of_ble_eq_true rfl) (fun G => ?_)
  unfold v_X9_standsInAct at k
  unfold p_X9_standsInAct at t
  refine J_sub (ls' := [(0, rf E 25), (1, .int p0), (2, .int p1)]) [0, 1, 2] rfl ?_
  refine J_aload_n (dk okX9_standsInAct 0 rfl) 0 rfl rfl ?_
  refine J_iload_n (dk okX9_standsInAct 1 rfl) 1 rfl rfl ?_
  obtain ⟨s1, t⟩ := t
  refine J_callVi (As := [.int p0]) (dk okX9_standsInAct 2 rfl) ds_25 rfl vkX9_at lkX9_19 rfl rfl (Nat.le_of_ble_eq_true rfl) (by decide) (con_X9_at s1 ⟨_, rfl, ?_⟩)
  refine J_istore_n (ls' := [(3, _), (0, _), (1, _), (2, _)]) (dk okX9_standsInAct 3 rfl) rfl (by decide) rfl ?_
  refine J_aload_n (dk okX9_standsInAct 4 rfl) 1 rfl rfl ?_
  refine J_iload_n (dk okX9_standsInAct 5 rfl) 3 rfl rfl ?_
  have s2 := t
  refine J_callVi (As := [.int p1]) (dk okX9_standsInAct 6 rfl) ds_25 rfl vkX9_at lkX9_19 rfl rfl (Nat.le_of_ble_eq_true rfl) (by decide) (con_X9_at s2 ⟨_, rfl, ?_⟩)
  refine J_istore (ls' := [(4, _), (3, _), (0, _), (1, _), (2, _)]) (dk okX9_standsInAct 7 rfl) (by decide) rfl ?_
  refine J_iload_n (dk okX9_standsInAct 8 rfl) 4 rfl rfl ?_
  refine J_iload_n (dk okX9_standsInAct 9 rfl) 3 rfl rfl ?_
  refine J_icmp_ne (tgt := 32) (dk okX9_standsInAct 10 rfl) (by decide) (fun h3 => ?_) (fun h3 => ?_)
  · refine J_iload_n (dk okX9_standsInAct 19 rfl) 4 rfl rfl ?_
    refine J_iload_n (dk okX9_standsInAct 20 rfl) 3 rfl rfl ?_
    refine J_iconst (v := 2) (dk okX9_standsInAct 21 rfl) (by decide) ?_
    refine J_iadd (dk okX9_standsInAct 22 rfl) ?_
    refine J_icmp_ne (tgt := 65) (dk okX9_standsInAct 23 rfl) (by decide) (fun h6 => ?_) (fun h6 => ?_)
    · refine J_iload_n (dk okX9_standsInAct 37 rfl) 4 rfl rfl ?_
      refine J_iload_n (dk okX9_standsInAct 38 rfl) 3 rfl rfl ?_
      refine J_iconst (v := 2) (dk okX9_standsInAct 39 rfl) (by decide) ?_
      refine J_iadd (dk okX9_standsInAct 40 rfl) ?_
      refine J_icmp_ne (tgt := 98) (dk okX9_standsInAct 41 rfl) (by decide) (fun h16 => ?_) (fun h16 => absurd h16 h6)
      refine J_iload (dk okX9_standsInAct 55 rfl) 0 rfl ?_
      refine J_callSi (As := [.int (v_X9_at p1 μ)]) (dk okX9_standsInAct 56 rfl) skX9_isDigit lkX9_37 rfl rfl (Nat.le_of_ble_eq_true rfl) (by decide) (con_X9_isDigit  ⟨_, rfl, ?_⟩)
      (try simp only [if_neg h3, if_neg h6] at k ⊢)
      exact J_zret (dk okX9_standsInAct 57 rfl) rfl (nb_X9_isDigit _) k
    · refine J_iload_n (dk okX9_standsInAct 24 rfl) 1 rfl rfl ?_
      refine J_bipush (v := 108) (dk okX9_standsInAct 25 rfl) (by decide) ?_
      refine J_icmp_ne (tgt := 65) (dk okX9_standsInAct 26 rfl) (by decide) (fun h7 => ?_) (fun h7 => ?_)
      · refine J_iload_n (dk okX9_standsInAct 37 rfl) 4 rfl rfl ?_
        refine J_iload_n (dk okX9_standsInAct 38 rfl) 3 rfl rfl ?_
        refine J_iconst (v := 2) (dk okX9_standsInAct 39 rfl) (by decide) ?_
        refine J_iadd (dk okX9_standsInAct 40 rfl) ?_
        refine J_icmp_ne (tgt := 98) (dk okX9_standsInAct 41 rfl) (by decide) (fun h11 => absurd h6 h11) (fun h11 => ?_)
        refine J_iload_n (dk okX9_standsInAct 42 rfl) 1 rfl rfl ?_
        refine J_bipush (v := 116) (dk okX9_standsInAct 43 rfl) (by decide) ?_
        refine J_icmp_ne (tgt := 98) (dk okX9_standsInAct 44 rfl) (by decide) (fun h12 => ?_) (fun h12 => ?_)
        · refine J_iload (dk okX9_standsInAct 55 rfl) 0 rfl ?_
          refine J_callSi (As := [.int (v_X9_at p1 μ)]) (dk okX9_standsInAct 56 rfl) skX9_isDigit lkX9_37 rfl rfl (Nat.le_of_ble_eq_true rfl) (by decide) (con_X9_isDigit  ⟨_, rfl, ?_⟩)
          (try simp only [if_neg h3, if_pos h6, if_neg h7, if_neg h12] at k ⊢)
          exact J_zret (dk okX9_standsInAct 57 rfl) rfl (nb_X9_isDigit _) k
        · refine J_iload (dk okX9_standsInAct 45 rfl) 0 rfl ?_
          refine J_bipush (v := 43) (dk okX9_standsInAct 46 rfl) (by decide) ?_
          have K15 : J E G 2 mX9_standsInAct Q 97 [] [.int (if (v_X9_at p1 μ) = 43 then 1 else (if (v_X9_at p1 μ) = 45 then 1 else 0 : Int32) : Int32)] μ := by
            (try simp only [if_neg h3, if_pos h6, if_neg h7, if_pos h12] at k ⊢)
            exact J_zret (dk okX9_standsInAct 54 rfl) rfl (by (repeat' split) <;> first | rfl | (simp only [*]; rfl)) k
          refine J_icmp_eq (tgt := 92) (dk okX9_standsInAct 47 rfl) (by decide) (fun h13 => ?_) (fun h13 => ?_)
          · refine J_iconst (v := 1) (dk okX9_standsInAct 51 rfl) (by decide) ?_
            refine J_goto (tgt := 97) (dk okX9_standsInAct 52 rfl) (by decide) ?_
            refine J_sub (ls' := []) [] rfl ?_
            (try simp only [if_pos h13] at K15 ⊢); exact K15
          · refine J_iload (dk okX9_standsInAct 48 rfl) 0 rfl ?_
            refine J_bipush (v := 45) (dk okX9_standsInAct 49 rfl) (by decide) ?_
            refine J_icmp_ne (tgt := 96) (dk okX9_standsInAct 50 rfl) (by decide) (fun h14 => ?_) (fun h14 => ?_)
            · refine J_iconst (v := 0) (dk okX9_standsInAct 53 rfl) (by decide) ?_
              refine J_sub (ls' := []) [] rfl ?_
              (try simp only [if_neg h13, if_neg h14] at K15 ⊢); exact K15
            · refine J_iconst (v := 1) (dk okX9_standsInAct 51 rfl) (by decide) ?_
              refine J_goto (tgt := 97) (dk okX9_standsInAct 52 rfl) (by decide) ?_
              refine J_sub (ls' := []) [] rfl ?_
              (try simp only [if_neg h13, if_pos h14] at K15 ⊢); exact K15
      · refine J_iload (dk okX9_standsInAct 27 rfl) 0 rfl ?_
        refine J_bipush (v := 101) (dk okX9_standsInAct 28 rfl) (by decide) ?_
        have K10 : J E G 2 mX9_standsInAct Q 64 [] [.int (if (v_X9_at p1 μ) = 101 then 1 else (if (v_X9_at p1 μ) = 119 then 1 else 0 : Int32) : Int32)] μ := by
          (try simp only [if_neg h3, if_pos h6, if_pos h7] at k ⊢)
          exact J_zret (dk okX9_standsInAct 36 rfl) rfl (by (repeat' split) <;> first | rfl | (simp only [*]; rfl)) k
        refine J_icmp_eq (tgt := 59) (dk okX9_standsInAct 29 rfl) (by decide) (fun h8 => ?_) (fun h8 => ?_)
        · refine J_iconst (v := 1) (dk okX9_standsInAct 33 rfl) (by decide) ?_
          refine J_goto (tgt := 64) (dk okX9_standsInAct 34 rfl) (by decide) ?_
          refine J_sub (ls' := []) [] rfl ?_
          (try simp only [if_pos h8] at K10 ⊢); exact K10
        · refine J_iload (dk okX9_standsInAct 30 rfl) 0 rfl ?_
          refine J_bipush (v := 119) (dk okX9_standsInAct 31 rfl) (by decide) ?_
          refine J_icmp_ne (tgt := 63) (dk okX9_standsInAct 32 rfl) (by decide) (fun h9 => ?_) (fun h9 => ?_)
          · refine J_iconst (v := 0) (dk okX9_standsInAct 35 rfl) (by decide) ?_
            refine J_sub (ls' := []) [] rfl ?_
            (try simp only [if_neg h8, if_neg h9] at K10 ⊢); exact K10
          · refine J_iconst (v := 1) (dk okX9_standsInAct 33 rfl) (by decide) ?_
            refine J_goto (tgt := 64) (dk okX9_standsInAct 34 rfl) (by decide) ?_
            refine J_sub (ls' := []) [] rfl ?_
            (try simp only [if_neg h8, if_pos h9] at K10 ⊢); exact K10
  · refine J_iload_n (dk okX9_standsInAct 11 rfl) 1 rfl rfl ?_
    refine J_callSi (As := [.int (v_X9_at p0 μ)]) (dk okX9_standsInAct 12 rfl) skX9_actLength lkX9_44 rfl rfl (Nat.le_of_ble_eq_true rfl) (by decide) (con_X9_actLength  ⟨_, rfl, ?_⟩)
    refine J_iconst (v := 1) (dk okX9_standsInAct 13 rfl) (by decide) ?_
    have K5 : J E G 2 mX9_standsInAct Q 31 [] [.int (if (v_X9_actLength (v_X9_at p0 μ)) ≤ 1 then 0 else 1 : Int32)] μ := by
      (try simp only [if_pos h3] at k ⊢)
      exact J_zret (dk okX9_standsInAct 18 rfl) rfl (by (repeat' split) <;> first | rfl | (simp only [*]; rfl)) k
    refine J_icmp_le (tgt := 30) (dk okX9_standsInAct 14 rfl) (by decide) (fun h4 => ?_) (fun h4 => ?_)
    · refine J_iconst (v := 0) (dk okX9_standsInAct 17 rfl) (by decide) ?_
      refine J_sub (ls' := []) [] rfl ?_
      (try simp only [if_pos h4] at K5 ⊢); exact K5
    · refine J_iconst (v := 1) (dk okX9_standsInAct 15 rfl) (by decide) ?_
      refine J_goto (tgt := 31) (dk okX9_standsInAct 16 rfl) (by decide) ?_
      refine J_sub (ls' := []) [] rfl ?_
      (try simp only [if_neg h4] at K5 ⊢); exact K5
/-- VotingFloor$Text.standsInLine(II)Z -/
def v_X9_standsInLine (p0 : Int32) (p1 : Int32) (μ : Mm) : Int32 := (if (p0 - p0 / 4 * 4) = 0 then (if p1 ≤ (p0 / 4) then 0 else (if (v_X9_isDigit (v_X9_at p0 μ)) = 0 then 0 else (if (v_X9_at p0 μ) = 48 then 0 else 1 : Int32) : Int32) : Int32) else (if (p0 - p0 / 4 * 4) = 1 then (if (v_X9_at p0 μ) = 43 then 1 else (if (v_X9_at p0 μ) = 45 then 1 else 0 : Int32) : Int32) else (if (p0 - p0 / 4 * 4) = 2 then (v_X9_isDigit (v_X9_at p0 μ)) else (if (v_X9_at p0 μ) = 59 then 1 else 0 : Int32))))
def p_X9_standsInLine (p0 : Int32) (p1 : Int32)  (μ : Mm) : Prop := p_X9_at p0 μ
set_option maxRecDepth 20000 in
set_option maxHeartbeats 4000000 in
theorem con_X9_standsInLine {E : Ex} {Q : Option Value → Mm → Prop} {p0 : Int32} {p1 : Int32} {μ : Mm} (t : p_X9_standsInLine p0 p1  μ) (k : Q (some (.int (v_X9_standsInLine p0 p1 μ))) μ) : Con E 2 mX9_standsInLine [rf E 25, .int p0, .int p1] μ Q := by
  refine Con_J (by decide +kernel) (Nat.le_of_ble_eq_true rfl) (fun G => ?_)
  unfold v_X9_standsInLine at k
  unfold p_X9_standsInLine at t
  refine J_sub (ls' := [(0, rf E 25), (1, .int p0), (2, .int p1)]) [0, 1, 2] rfl ?_
  refine J_aload_n (dk okX9_standsInLine 0 rfl) 0 rfl rfl ?_
  refine J_iload_n (dk okX9_standsInLine 1 rfl) 1 rfl rfl ?_
  have s1 := t
  refine J_callVi (As := [.int p0]) (dk okX9_standsInLine 2 rfl) ds_25 rfl vkX9_at lkX9_19 rfl rfl (Nat.le_of_ble_eq_true rfl) (by decide) (con_X9_at s1 ⟨_, rfl, ?_⟩)
  refine J_istore_n (ls' := [(3, _), (0, _), (1, _), (2, _)]) (dk okX9_standsInLine 3 rfl) rfl (by decide) rfl ?_
  refine J_iload_n (dk okX9_standsInLine 4 rfl) 2 rfl rfl ?_
  refine J_iconst (v := 4) (dk okX9_standsInLine 5 rfl) (by decide) ?_
  refine J_irem (dk okX9_standsInLine 6 rfl) (by decide) ?_
  by_cases h3 : (p0 - p0 / 4 * 4) = 0
  · refine J_at h3 (J_tableIn (x := 0) (off := 27) (tgt := 36) (dk okX9_standsInLine 7 rfl) (by decide) (by decide) (by decide) (by decide) ?_)
    refine J_iload_n (dk okX9_standsInLine 8 rfl) 2 rfl rfl ?_
    refine J_iconst (v := 4) (dk okX9_standsInLine 9 rfl) (by decide) ?_
    refine J_idiv (dk okX9_standsInLine 10 rfl) (by decide) ?_
    refine J_iload_n (dk okX9_standsInLine 11 rfl) 3 rfl rfl ?_
    have K7 : J E G 2 mX9_standsInLine Q 61 [] [.int (if p1 ≤ (p0 / 4) then 0 else (if (v_X9_isDigit (v_X9_at p0 μ)) = 0 then 0 else (if (v_X9_at p0 μ) = 48 then 0 else 1 : Int32) : Int32) : Int32)] μ := by
      (try simp only [if_pos h3] at k ⊢)
      exact J_zret (dk okX9_standsInLine 22 rfl) rfl (by (repeat' split) <;> first | rfl | (simp only [*]; rfl)) k
    refine J_icmp_ge (tgt := 60) (dk okX9_standsInLine 12 rfl) (by decide) (fun h4 => ?_) (fun h4 => ?_)
    · refine J_iconst (v := 0) (dk okX9_standsInLine 21 rfl) (by decide) ?_
      refine J_sub (ls' := []) [] rfl ?_
      (try simp only [if_pos h4] at K7 ⊢); exact K7
    · refine J_iload_n (dk okX9_standsInLine 13 rfl) 0 rfl rfl ?_
      refine J_callSi (As := [.int (v_X9_at p0 μ)]) (dk okX9_standsInLine 14 rfl) skX9_isDigit lkX9_37 rfl rfl (Nat.le_of_ble_eq_true rfl) (by decide) (con_X9_isDigit  ⟨_, rfl, ?_⟩)
      refine J_if_eq (tgt := 60) (dk okX9_standsInLine 15 rfl) (by decide) (fun h5 => ?_) (fun h5 => ?_)
      · refine J_iconst (v := 0) (dk okX9_standsInLine 21 rfl) (by decide) ?_
        refine J_sub (ls' := []) [] rfl ?_
        (try simp only [if_neg h4, if_pos h5] at K7 ⊢); exact K7
      · refine J_iload_n (dk okX9_standsInLine 16 rfl) 0 rfl rfl ?_
        refine J_bipush (v := 48) (dk okX9_standsInLine 17 rfl) (by decide) ?_
        refine J_icmp_eq (tgt := 60) (dk okX9_standsInLine 18 rfl) (by decide) (fun h6 => ?_) (fun h6 => ?_)
        · refine J_iconst (v := 0) (dk okX9_standsInLine 21 rfl) (by decide) ?_
          refine J_sub (ls' := []) [] rfl ?_
          (try simp only [if_neg h4, if_neg h5, if_pos h6] at K7 ⊢); exact K7
        · refine J_iconst (v := 1) (dk okX9_standsInLine 19 rfl) (by decide) ?_
          refine J_goto (tgt := 61) (dk okX9_standsInLine 20 rfl) (by decide) ?_
          refine J_sub (ls' := []) [] rfl ?_
          (try simp only [if_neg h4, if_neg h5, if_neg h6] at K7 ⊢); exact K7
  · by_cases h8 : (p0 - p0 / 4 * 4) = 1
    · refine J_at h8 (J_tableIn (x := 1) (off := 53) (tgt := 62) (dk okX9_standsInLine 7 rfl) (by decide) (by decide) (by decide) (by decide) ?_)
      refine J_iload_n (dk okX9_standsInLine 23 rfl) 0 rfl rfl ?_
      refine J_bipush (v := 43) (dk okX9_standsInLine 24 rfl) (by decide) ?_
      have K11 : J E G 2 mX9_standsInLine Q 79 [] [.int (if (v_X9_at p0 μ) = 43 then 1 else (if (v_X9_at p0 μ) = 45 then 1 else 0 : Int32) : Int32)] μ := by
        (try simp only [if_neg h3, if_pos h8] at k ⊢)
        exact J_zret (dk okX9_standsInLine 32 rfl) rfl (by (repeat' split) <;> first | rfl | (simp only [*]; rfl)) k
      refine J_icmp_eq (tgt := 74) (dk okX9_standsInLine 25 rfl) (by decide) (fun h9 => ?_) (fun h9 => ?_)
      · refine J_iconst (v := 1) (dk okX9_standsInLine 29 rfl) (by decide) ?_
        refine J_goto (tgt := 79) (dk okX9_standsInLine 30 rfl) (by decide) ?_
        refine J_sub (ls' := []) [] rfl ?_
        (try simp only [if_pos h9] at K11 ⊢); exact K11
      · refine J_iload_n (dk okX9_standsInLine 26 rfl) 0 rfl rfl ?_
        refine J_bipush (v := 45) (dk okX9_standsInLine 27 rfl) (by decide) ?_
        refine J_icmp_ne (tgt := 78) (dk okX9_standsInLine 28 rfl) (by decide) (fun h10 => ?_) (fun h10 => ?_)
        · refine J_iconst (v := 0) (dk okX9_standsInLine 31 rfl) (by decide) ?_
          refine J_sub (ls' := []) [] rfl ?_
          (try simp only [if_neg h9, if_neg h10] at K11 ⊢); exact K11
        · refine J_iconst (v := 1) (dk okX9_standsInLine 29 rfl) (by decide) ?_
          refine J_goto (tgt := 79) (dk okX9_standsInLine 30 rfl) (by decide) ?_
          refine J_sub (ls' := []) [] rfl ?_
          (try simp only [if_neg h9, if_pos h10] at K11 ⊢); exact K11
    · by_cases h12 : (p0 - p0 / 4 * 4) = 2
      · refine J_at h12 (J_tableIn (x := 2) (off := 71) (tgt := 80) (dk okX9_standsInLine 7 rfl) (by decide) (by decide) (by decide) (by decide) ?_)
        refine J_iload_n (dk okX9_standsInLine 33 rfl) 0 rfl rfl ?_
        refine J_callSi (As := [.int (v_X9_at p0 μ)]) (dk okX9_standsInLine 34 rfl) skX9_isDigit lkX9_37 rfl rfl (Nat.le_of_ble_eq_true rfl) (by decide) (con_X9_isDigit  ⟨_, rfl, ?_⟩)
        (try simp only [if_neg h3, if_neg h8, if_pos h12] at k ⊢)
        exact J_zret (dk okX9_standsInLine 35 rfl) rfl (nb_X9_isDigit _) k
      · have nh3 := lv_neT (a := 0) h3 (by decide)
        have nh8 := lv_neT (a := 1) h8 (by decide)
        have nh12 := lv_neT (a := 2) h12 (by decide)
        refine J_tableOut (tgt := 85) (dk okX9_standsInLine 7 rfl) (by omega) (by decide) ?_
        refine J_iload_n (dk okX9_standsInLine 36 rfl) 0 rfl rfl ?_
        refine J_bipush (v := 59) (dk okX9_standsInLine 37 rfl) (by decide) ?_
        have K14 : J E G 2 mX9_standsInLine Q 96 [] [.int (if (v_X9_at p0 μ) = 59 then 1 else 0 : Int32)] μ := by
          (try simp only [if_neg h3, if_neg h8, if_neg h12] at k ⊢)
          exact J_zret (dk okX9_standsInLine 42 rfl) rfl (by (repeat' split) <;> first | rfl | (simp only [*]; rfl)) k
        refine J_icmp_ne (tgt := 95) (dk okX9_standsInLine 38 rfl) (by decide) (fun h13 => ?_) (fun h13 => ?_)
        · refine J_iconst (v := 0) (dk okX9_standsInLine 41 rfl) (by decide) ?_
          refine J_sub (ls' := []) [] rfl ?_
          (try simp only [if_neg h13] at K14 ⊢); exact K14
        · refine J_iconst (v := 1) (dk okX9_standsInLine 39 rfl) (by decide) ?_
          refine J_goto (tgt := 96) (dk okX9_standsInLine 40 rfl) (by decide) ?_
          refine J_sub (ls' := []) [] rfl ?_
          (try simp only [if_pos h13] at K14 ⊢); exact K14
/-- java/lang/StringLatin1.charAt([BI)C -/
def v_J1_charAt_3b067 (p0 : Nat) (p1 : Int32) : Int32 := (Int32.toUInt32 (((strByt.getD p0 []).getD (Int32.toNatClampNeg p1) 0) &&& 255) % 65536).toInt32
def p_J1_charAt_3b067 (p0 : Nat) (p1 : Int32)  : Prop := (p_J0_checkIndex_df160 p1 (Int32.ofNat (strLen.getD p0 0))) ∧ (vp_in p1 (strLen.getD p0 0)) ∧ narrow .char (.int ((Int32.toUInt32 (((strByt.getD p0 []).getD (Int32.toNatClampNeg p1) 0) &&& 255) % 65536).toInt32)) = .int ((Int32.toUInt32 (((strByt.getD p0 []).getD (Int32.toNatClampNeg p1) 0) &&& 255) % 65536).toInt32)
set_option maxRecDepth 20000 in
set_option maxHeartbeats 4000000 in
theorem con_J1_charAt_3b067 {E : Ex} {Q : Option Value → Mm → Prop} {p0 : Nat} {p1 : Int32} {μ : Mm} (hp0 : p0 < strN) (t : p_J1_charAt_3b067 p0 p1 ) (k : Q (some (.int (v_J1_charAt_3b067 p0 p1))) μ) : Con E 3 mJ1_charAt_3b067 [bf E p0, .int p1] μ Q := by
  refine Con_J (by decide +kernel) (Nat.le_of_ble_eq_true rfl) (fun G => ?_)
  unfold v_J1_charAt_3b067 at k
  unfold p_J1_charAt_3b067 at t
  refine J_sub (ls' := [(0, bf E p0), (1, .int p1)]) [0, 1] rfl ?_
  refine J_iload_n (dk okJ1_charAt_3b067 0 rfl) 1 rfl rfl ?_
  refine J_aload_nB (dk okJ1_charAt_3b067 1 rfl) 0 rfl rfl ?_
  refine J_blen (dk okJ1_charAt_3b067 2 rfl) hp0 ?_
  obtain ⟨s1, t⟩ := t
  refine J_callSv (As := [.int p1, .int (Int32.ofNat (strLen.getD p0 0))]) (dk okJ1_charAt_3b067 3 rfl) skJ0_checkIndex_df160 lkJ1_9 rfl rfl (Nat.le_of_ble_eq_true rfl) (by decide) (con_J0_checkIndex_df160 s1 ⟨rfl, ?_⟩)
  refine J_aload_nB (dk okJ1_charAt_3b067 4 rfl) 0 rfl rfl ?_
  refine J_iload_n (dk okJ1_charAt_3b067 5 rfl) 1 rfl rfl ?_
  obtain ⟨s2, t⟩ := t
  refine J_bald (dk okJ1_charAt_3b067 6 rfl) hp0 s2 ?_
  refine J_sipush (v := 255) (dk okJ1_charAt_3b067 7 rfl) (by decide) ?_
  refine J_iand (dk okJ1_charAt_3b067 8 rfl) ?_
  refine J_i2c (dk okJ1_charAt_3b067 9 rfl) ?_
  have s3 := t
  exact J_zret (dk okJ1_charAt_3b067 10 rfl) rfl s3 k
/-- VotingFloor.committed(I)I -/
def v_X11_committed (p0 : Int32) : Int32 := p0
def e_X11_committed (p0 : Int32) (μ : Mm) : Mm := (let μ3 : Mm := (if p0 < 0 then μ else ((e_X3_commit  μ)) : Mm); μ3)
set_option maxRecDepth 20000 in
set_option maxHeartbeats 4000000 in
theorem con_X11_committed {E : Ex} {Q : Option Value → Mm → Prop} {p0 : Int32} {μ : Mm} (k : Q (some (.int (v_X11_committed p0))) (e_X11_committed p0 μ)) : Con E 3 mX11_committed [rf E 0, .int p0] μ Q := by
  refine Con_J (by decide +kernel) (Nat.le_of_ble_eq_true rfl) (fun G => ?_)
  unfold v_X11_committed e_X11_committed at k
  refine J_sub (ls' := [(0, rf E 0), (1, .int p0)]) [0, 1] rfl ?_
  refine J_iload_n (dk okX11_committed 0 rfl) 1 rfl rfl ?_
  have K4 : J E G 3 mX11_committed Q 11 [(1, .int p0)] [] (if p0 < 0 then μ else ((e_X3_commit  μ)) : Mm) := by
    refine J_nm (fun μ3 eμ3 => ?_)
    refine J_iload_n (dk okX11_committed 5 rfl) 0 rfl rfl ?_
    subst eμ3
    exact J_iret (dk okX11_committed 6 rfl) rfl k
  refine J_if_lt (tgt := 11) (dk okX11_committed 1 rfl) (by decide) (fun h1 => ?_) (fun h1 => ?_)
  · refine J_sub (ls' := [(1, _)]) [1] rfl ?_
    (try simp only [if_pos h1] at K4 ⊢); exact K4
  · refine J_aload_n (dk okX11_committed 2 rfl) 0 rfl rfl ?_
    refine J_getR (dk okX11_committed 3 rfl) kfX11_46 ds_0 rfl ?_
    refine J_callVv (As := []) (dk okX11_committed 4 rfl) ds_29 rfl vkX3_commit lkX11_193 rfl rfl (Nat.le_of_ble_eq_true rfl) (by decide) (con_X3_commit  ⟨rfl, ?_⟩)
    refine J_nm (fun μ2 eμ2 => ?_)
    subst eμ2
    refine J_sub (ls' := [(1, _)]) [1] rfl ?_
    (try simp only [if_neg h1] at K4 ⊢); exact K4
/-- VotingFloorModel.areBacks(II)Z -/
def v_X12_areBacks (p0 : Int32) (p1 : Int32) (μ : Mm) : Int32 := (if (if (v_X12_has (v_X12_here 52 μ) p0) = 0 then 0 else (if (v_X12_has (v_X12_here 52 μ) p1) = 0 then 0 else (if (μ.1 52 (Int32.toNatClampNeg (7 + p0))) = 0 then 0 else 1 : Int32) : Int32) : Int32) = 0 then 0 else (if (μ.1 52 (Int32.toNatClampNeg (7 + p0))) = (-(μ.1 52 (Int32.toNatClampNeg (7 + p1)))) then (if (v_X12_load 52 p0 μ) = (v_X12_load 52 p1 μ) then 1 else 0 : Int32) else 0 : Int32) : Int32)
def p_X12_areBacks (p0 : Int32) (p1 : Int32)  (μ : Mm) : Prop := ((¬ ((v_X12_has (v_X12_here 52 μ) p0) = 0) → (¬ ((v_X12_has (v_X12_here 52 μ) p1) = 0) → vp_in (7 + p0) 24))) ∧ (¬ ((if (v_X12_has (v_X12_here 52 μ) p0) = 0 then 0 else (if (v_X12_has (v_X12_here 52 μ) p1) = 0 then 0 else (if (μ.1 52 (Int32.toNatClampNeg (7 + p0))) = 0 then 0 else 1 : Int32) : Int32) : Int32) = 0) → (vp_in (7 + p0) 24) ∧ (vp_in (7 + p1) 24) ∧ ((μ.1 52 (Int32.toNatClampNeg (7 + p0))) = (-(μ.1 52 (Int32.toNatClampNeg (7 + p1)))) → (p_X12_load 52 p0) ∧ p_X12_load 52 p1))
set_option maxRecDepth 20000 in
set_option maxHeartbeats 4000000 in
theorem con_X12_areBacks {E : Ex} {Q : Option Value → Mm → Prop} {p0 : Int32} {p1 : Int32} {μ : Mm} (t : p_X12_areBacks p0 p1  μ) (k : Q (some (.int (v_X12_areBacks p0 p1 μ))) μ) : Con E 3 mX12_areBacks [rf E 49, .int p0, .int p1] μ Q := by
  refine Con_J (by decide +kernel) (Nat.le_of_ble_eq_true rfl) (fun G => ?_)
  unfold v_X12_areBacks at k
  unfold p_X12_areBacks at t
  refine J_sub (ls' := [(0, rf E 49), (1, .int p0), (2, .int p1)]) [0, 1, 2] rfl ?_
  refine J_aload_n (dk okX12_areBacks 0 rfl) 0 rfl rfl ?_
  refine J_aload_n (dk okX12_areBacks 1 rfl) 0 rfl rfl ?_
  refine J_getR (dk okX12_areBacks 2 rfl) kfX12_32 ds_49 rfl ?_
  refine J_callVi (As := [rf E 52]) (dk okX12_areBacks 3 rfl) ds_49 rfl vkX12_here lkX12_122 rfl rfl (Nat.le_of_ble_eq_true rfl) (by decide) (con_X12_here ds_52 ⟨_, rfl, ?_⟩)
  refine J_iload_n (dk okX12_areBacks 4 rfl) 1 rfl rfl ?_
  refine J_callSi (As := [.int (v_X12_here 52 μ), .int p0]) (dk okX12_areBacks 5 rfl) skX12_has lkX12_126 rfl rfl (Nat.le_of_ble_eq_true rfl) (by decide) (con_X12_has  ⟨_, rfl, ?_⟩)
  obtain ⟨t9, t⟩ := t
  have K5 : J E G 3 mX12_areBacks Q 47 [(0, rf E 49), (1, .int p0), (2, .int p1)] [.int (if (v_X12_has (v_X12_here 52 μ) p0) = 0 then 0 else (if (v_X12_has (v_X12_here 52 μ) p1) = 0 then 0 else (if (μ.1 52 (Int32.toNatClampNeg (7 + p0))) = 0 then 0 else 1 : Int32) : Int32) : Int32)] μ := by
    refine J_istore_n (ls' := [(3, _), (0, _), (1, _), (2, _)]) (dk okX12_areBacks 24 rfl) rfl (by decide) rfl ?_
    refine J_iload_n (dk okX12_areBacks 25 rfl) 0 rfl rfl ?_
    have K13 : J E G 3 mX12_areBacks Q 100 [] [.int (if (if (v_X12_has (v_X12_here 52 μ) p0) = 0 then 0 else (if (v_X12_has (v_X12_here 52 μ) p1) = 0 then 0 else (if (μ.1 52 (Int32.toNatClampNeg (7 + p0))) = 0 then 0 else 1 : Int32) : Int32) : Int32) = 0 then 0 else (if (μ.1 52 (Int32.toNatClampNeg (7 + p0))) = (-(μ.1 52 (Int32.toNatClampNeg (7 + p1)))) then (if (v_X12_load 52 p0 μ) = (v_X12_load 52 p1 μ) then 1 else 0 : Int32) else 0 : Int32) : Int32)] μ := by
      exact J_zret (dk okX12_areBacks 55 rfl) rfl (by (repeat' split) <;> first | rfl | (simp only [*]; rfl)) k
    refine J_if_eq (tgt := 99) (dk okX12_areBacks 26 rfl) (by decide) (fun h6 => ?_) (fun h6 => ?_)
    · refine J_iconst (v := 0) (dk okX12_areBacks 54 rfl) (by decide) ?_
      refine J_sub (ls' := []) [] rfl ?_
      (try simp only [if_pos h6] at K13 ⊢); exact K13
    · have t := t h6
      refine J_aload_n (dk okX12_areBacks 27 rfl) 1 rfl rfl ?_
      refine J_getR (dk okX12_areBacks 28 rfl) kfX12_32 ds_49 rfl ?_
      refine J_bipush (v := 7) (dk okX12_areBacks 29 rfl) (by decide) ?_
      refine J_iload_n (dk okX12_areBacks 30 rfl) 2 rfl rfl ?_
      refine J_iadd (dk okX12_areBacks 31 rfl) ?_
      obtain ⟨s7, t⟩ := t
      refine J_iald (dk okX12_areBacks 32 rfl) ds_52 s7 ?_
      refine J_aload_n (dk okX12_areBacks 33 rfl) 1 rfl rfl ?_
      refine J_getR (dk okX12_areBacks 34 rfl) kfX12_32 ds_49 rfl ?_
      refine J_bipush (v := 7) (dk okX12_areBacks 35 rfl) (by decide) ?_
      refine J_iload_n (dk okX12_areBacks 36 rfl) 3 rfl rfl ?_
      refine J_iadd (dk okX12_areBacks 37 rfl) ?_
      obtain ⟨s8, t⟩ := t
      refine J_iald (dk okX12_areBacks 38 rfl) ds_52 s8 ?_
      refine J_ineg (dk okX12_areBacks 39 rfl) ?_
      refine J_icmp_ne (tgt := 99) (dk okX12_areBacks 40 rfl) (by decide) (fun h9 => ?_) (fun h9 => ?_)
      · refine J_iconst (v := 0) (dk okX12_areBacks 54 rfl) (by decide) ?_
        refine J_sub (ls' := []) [] rfl ?_
        (try simp only [if_neg h6, if_neg h9] at K13 ⊢); exact K13
      · have t := t h9
        refine J_aload_n (dk okX12_areBacks 41 rfl) 1 rfl rfl ?_
        refine J_aload_n (dk okX12_areBacks 42 rfl) 1 rfl rfl ?_
        refine J_getR (dk okX12_areBacks 43 rfl) kfX12_32 ds_49 rfl ?_
        refine J_iload_n (dk okX12_areBacks 44 rfl) 2 rfl rfl ?_
        obtain ⟨s10, t⟩ := t
        refine J_callVi (As := [rf E 52, .int p0]) (dk okX12_areBacks 45 rfl) ds_49 rfl vkX12_load lkX12_130 rfl rfl (Nat.le_of_ble_eq_true rfl) (by decide) (con_X12_load ds_52 s10 ⟨_, rfl, ?_⟩)
        refine J_aload_n (dk okX12_areBacks 46 rfl) 1 rfl rfl ?_
        refine J_aload_n (dk okX12_areBacks 47 rfl) 1 rfl rfl ?_
        refine J_getR (dk okX12_areBacks 48 rfl) kfX12_32 ds_49 rfl ?_
        refine J_iload_n (dk okX12_areBacks 49 rfl) 3 rfl rfl ?_
        have s11 := t
        refine J_callVi (As := [rf E 52, .int p1]) (dk okX12_areBacks 50 rfl) ds_49 rfl vkX12_load lkX12_130 rfl rfl (Nat.le_of_ble_eq_true rfl) (by decide) (con_X12_load ds_52 s11 ⟨_, rfl, ?_⟩)
        refine J_icmp_ne (tgt := 99) (dk okX12_areBacks 51 rfl) (by decide) (fun h12 => ?_) (fun h12 => ?_)
        · refine J_iconst (v := 0) (dk okX12_areBacks 54 rfl) (by decide) ?_
          refine J_sub (ls' := []) [] rfl ?_
          (try simp only [if_neg h6, if_pos h9, if_neg h12] at K13 ⊢); exact K13
        · refine J_iconst (v := 1) (dk okX12_areBacks 52 rfl) (by decide) ?_
          refine J_goto (tgt := 100) (dk okX12_areBacks 53 rfl) (by decide) ?_
          refine J_sub (ls' := []) [] rfl ?_
          (try simp only [if_neg h6, if_pos h9, if_pos h12] at K13 ⊢); exact K13
  have t := t9
  refine J_if_eq (tgt := 46) (dk okX12_areBacks 6 rfl) (by decide) (fun h1 => ?_) (fun h1 => ?_)
  · refine J_iconst (v := 0) (dk okX12_areBacks 23 rfl) (by decide) ?_
    refine J_sub (ls' := [(0, _), (1, _), (2, _)]) [0, 1, 2] rfl ?_
    (try simp only [if_pos h1] at K5 ⊢); exact K5
  · have t := t h1
    refine J_aload_n (dk okX12_areBacks 7 rfl) 0 rfl rfl ?_
    refine J_aload_n (dk okX12_areBacks 8 rfl) 0 rfl rfl ?_
    refine J_getR (dk okX12_areBacks 9 rfl) kfX12_32 ds_49 rfl ?_
    refine J_callVi (As := [rf E 52]) (dk okX12_areBacks 10 rfl) ds_49 rfl vkX12_here lkX12_122 rfl rfl (Nat.le_of_ble_eq_true rfl) (by decide) (con_X12_here ds_52 ⟨_, rfl, ?_⟩)
    refine J_iload_n (dk okX12_areBacks 11 rfl) 2 rfl rfl ?_
    refine J_callSi (As := [.int (v_X12_here 52 μ), .int p1]) (dk okX12_areBacks 12 rfl) skX12_has lkX12_126 rfl rfl (Nat.le_of_ble_eq_true rfl) (by decide) (con_X12_has  ⟨_, rfl, ?_⟩)
    refine J_if_eq (tgt := 46) (dk okX12_areBacks 13 rfl) (by decide) (fun h2 => ?_) (fun h2 => ?_)
    · refine J_iconst (v := 0) (dk okX12_areBacks 23 rfl) (by decide) ?_
      refine J_sub (ls' := [(0, _), (1, _), (2, _)]) [0, 1, 2] rfl ?_
      (try simp only [if_neg h1, if_pos h2] at K5 ⊢); exact K5
    · have t := t h2
      refine J_aload_n (dk okX12_areBacks 14 rfl) 0 rfl rfl ?_
      refine J_getR (dk okX12_areBacks 15 rfl) kfX12_32 ds_49 rfl ?_
      refine J_bipush (v := 7) (dk okX12_areBacks 16 rfl) (by decide) ?_
      refine J_iload_n (dk okX12_areBacks 17 rfl) 1 rfl rfl ?_
      refine J_iadd (dk okX12_areBacks 18 rfl) ?_
      have s3 := t
      refine J_iald (dk okX12_areBacks 19 rfl) ds_52 s3 ?_
      refine J_if_eq (tgt := 46) (dk okX12_areBacks 20 rfl) (by decide) (fun h4 => ?_) (fun h4 => ?_)
      · refine J_iconst (v := 0) (dk okX12_areBacks 23 rfl) (by decide) ?_
        refine J_sub (ls' := [(0, _), (1, _), (2, _)]) [0, 1, 2] rfl ?_
        (try simp only [if_neg h1, if_neg h2, if_pos h4] at K5 ⊢); exact K5
      · refine J_iconst (v := 1) (dk okX12_areBacks 21 rfl) (by decide) ?_
        refine J_goto (tgt := 47) (dk okX12_areBacks 22 rfl) (by decide) ?_
        refine J_sub (ls' := [(0, _), (1, _), (2, _)]) [0, 1, 2] rfl ?_
        (try simp only [if_neg h1, if_neg h2, if_neg h4] at K5 ⊢); exact K5
theorem nb_X12_areBacks (p0 : Int32) (p1 : Int32) (μ : Mm) : narrow .boolean (.int (v_X12_areBacks p0 p1 μ)) = .int (v_X12_areBacks p0 p1 μ) := by
  unfold v_X12_areBacks; (repeat' split) <;> rfl
/-- VotingFloorModel.heard(II)I -/
def v_X12_heard (p0 : Int32) (p1 : Int32) (μ : Mm) : Int32 := (let μ1 : Mm := (upI μ 49 0 0); (if (v_X12_in (Int32.toInt64 p0) 0 4) = 0 then (-1) else (if (v_X12_in (Int32.toInt64 p1) (Int32.toInt64 (v_X12_lowest p0)) (Int32.toInt64 (v_X12_highest p0))) = 0 then (-1) else (if (μ1.1 49 36) = 12 then (-1) else (let μ6 : Mm := (upI μ1 71 (Int32.toNatClampNeg (μ1.1 49 36)) p0); (let μ8 : Mm := (upI μ6 72 (Int32.toNatClampNeg (μ6.1 49 36)) p1); (let μ9 : Mm := (upI μ8 49 36 ((μ8.1 49 36) + 1)); (μ9.1 49 36))))))))
def e_X12_heard (p0 : Int32) (p1 : Int32) (μ : Mm) : Mm := (let μ1 : Mm := (upI μ 49 0 0); (if (v_X12_in (Int32.toInt64 p0) 0 4) = 0 then μ1 else (if (v_X12_in (Int32.toInt64 p1) (Int32.toInt64 (v_X12_lowest p0)) (Int32.toInt64 (v_X12_highest p0))) = 0 then μ1 else (if (μ1.1 49 36) = 12 then μ1 else (let μ6 : Mm := (upI μ1 71 (Int32.toNatClampNeg (μ1.1 49 36)) p0); (let μ8 : Mm := (upI μ6 72 (Int32.toNatClampNeg (μ6.1 49 36)) p1); (let μ9 : Mm := (upI μ8 49 36 ((μ8.1 49 36) + 1)); μ9)))))))
def p_X12_heard (p0 : Int32) (p1 : Int32)  (μ : Mm) : Prop := (∀ μ1 : Mm, μ1 = (upI μ 49 0 0) → (¬ ((v_X12_in (Int32.toInt64 p0) 0 4) = 0) → (¬ ((v_X12_in (Int32.toInt64 p1) (Int32.toInt64 (v_X12_lowest p0)) (Int32.toInt64 (v_X12_highest p0))) = 0) → (¬ ((μ1.1 49 36) = 12) → (vp_in (μ1.1 49 36) 12) ∧ (∀ μ6 : Mm, μ6 = (upI μ1 71 (Int32.toNatClampNeg (μ1.1 49 36)) p0) → vp_in (μ6.1 49 36) 12)))))
set_option maxRecDepth 20000 in
set_option maxHeartbeats 4000000 in
theorem con_X12_heard {E : Ex} {Q : Option Value → Mm → Prop} {p0 : Int32} {p1 : Int32} {μ : Mm} (t : p_X12_heard p0 p1  μ) (k : Q (some (.int (v_X12_heard p0 p1 μ))) (e_X12_heard p0 p1 μ)) : Con E 3 mX12_heard [rf E 49, .int p0, .int p1] μ Q := by
  refine Con_J (by decide +kernel) (Nat.le_of_ble_eq_true rfl) (fun G => ?_)
  unfold v_X12_heard e_X12_heard at k
  unfold p_X12_heard at t
  refine J_sub (ls' := [(0, rf E 49), (1, .int p0), (2, .int p1)]) [0, 1, 2] rfl ?_
  refine J_aload_n (dk okX12_heard 0 rfl) 0 rfl rfl ?_
  refine J_iconst (v := 0) (dk okX12_heard 1 rfl) (by decide) ?_
  refine J_put (dk okX12_heard 2 rfl) kpX12_3 ds_49 rfl rfl rfl ?_
  refine J_nm (fun μ1 eμ1 => ?_)
  have t := t μ1 eμ1
  refine J_iload_n (dk okX12_heard 3 rfl) 1 rfl rfl ?_
  refine J_i2l (dk okX12_heard 4 rfl) ?_
  refine J_lconst (v := 0) (dk okX12_heard 5 rfl) (by decide) ?_
  refine J_ldc2 (v := 4) (dk okX12_heard 6 rfl) kcX12_410 ?_
  refine J_callSi (As := [.long (Int32.toInt64 p0), .long 0, .long 4]) (dk okX12_heard 7 rfl) skX12_in lkX12_114 rfl rfl (Nat.le_of_ble_eq_true rfl) (by decide) (con_X12_in  ⟨_, rfl, ?_⟩)
  refine J_if_eq (tgt := 44) (dk okX12_heard 8 rfl) (by decide) (fun h2 => ?_) (fun h2 => ?_)
  · refine J_iconst (v := (-1)) (dk okX12_heard 23 rfl) (by decide) ?_
    subst eμ1
    (try simp only [if_pos h2] at k ⊢)
    exact J_iret (dk okX12_heard 24 rfl) rfl k
  · have t := t h2
    refine J_iload_n (dk okX12_heard 9 rfl) 2 rfl rfl ?_
    refine J_i2l (dk okX12_heard 10 rfl) ?_
    refine J_iload_n (dk okX12_heard 11 rfl) 1 rfl rfl ?_
    refine J_callSi (As := [.int p0]) (dk okX12_heard 12 rfl) skX12_lowest lkX12_412 rfl rfl (Nat.le_of_ble_eq_true rfl) (by decide) (con_X12_lowest  ⟨_, rfl, ?_⟩)
    refine J_i2l (dk okX12_heard 13 rfl) ?_
    refine J_iload_n (dk okX12_heard 14 rfl) 1 rfl rfl ?_
    refine J_callSi (As := [.int p0]) (dk okX12_heard 15 rfl) skX12_highest lkX12_415 rfl rfl (Nat.le_of_ble_eq_true rfl) (by decide) (con_X12_highest  ⟨_, rfl, ?_⟩)
    refine J_i2l (dk okX12_heard 16 rfl) ?_
    refine J_callSi (As := [.long (Int32.toInt64 p1), .long (Int32.toInt64 (v_X12_lowest p0)), .long (Int32.toInt64 (v_X12_highest p0))]) (dk okX12_heard 17 rfl) skX12_in lkX12_114 rfl rfl (Nat.le_of_ble_eq_true rfl) (by decide) (con_X12_in  ⟨_, rfl, ?_⟩)
    refine J_if_eq (tgt := 44) (dk okX12_heard 18 rfl) (by decide) (fun h3 => ?_) (fun h3 => ?_)
    · refine J_iconst (v := (-1)) (dk okX12_heard 23 rfl) (by decide) ?_
      subst eμ1
      (try simp only [if_neg h2, if_pos h3] at k ⊢)
      exact J_iret (dk okX12_heard 24 rfl) rfl k
    · have t := t h3
      refine J_aload_n (dk okX12_heard 19 rfl) 0 rfl rfl ?_
      refine J_getI (dk okX12_heard 20 rfl) kfX12_418 ds_49 rfl ?_
      refine J_bipush (v := 12) (dk okX12_heard 21 rfl) (by decide) ?_
      refine J_icmp_ne (tgt := 46) (dk okX12_heard 22 rfl) (by decide) (fun h4 => ?_) (fun h4 => ?_)
      · have t := t h4
        refine J_aload_n (dk okX12_heard 25 rfl) 0 rfl rfl ?_
        refine J_getR (dk okX12_heard 26 rfl) kfX12_89 ds_49 rfl ?_
        refine J_aload_n (dk okX12_heard 27 rfl) 0 rfl rfl ?_
        refine J_getI (dk okX12_heard 28 rfl) kfX12_418 ds_49 rfl ?_
        refine J_iload_n (dk okX12_heard 29 rfl) 1 rfl rfl ?_
        obtain ⟨s5, t⟩ := t
        refine J_iast (dk okX12_heard 30 rfl) ds_71 s5 ?_
        refine J_nm (fun μ6 eμ6 => ?_)
        have t := t μ6 eμ6
        refine J_aload_n (dk okX12_heard 31 rfl) 0 rfl rfl ?_
        refine J_getR (dk okX12_heard 32 rfl) kfX12_92 ds_49 rfl ?_
        refine J_aload_n (dk okX12_heard 33 rfl) 0 rfl rfl ?_
        refine J_getI (dk okX12_heard 34 rfl) kfX12_418 ds_49 rfl ?_
        refine J_iload_n (dk okX12_heard 35 rfl) 2 rfl rfl ?_
        have s7 := t
        refine J_iast (dk okX12_heard 36 rfl) ds_72 s7 ?_
        refine J_nm (fun μ8 eμ8 => ?_)
        refine J_aload_n (dk okX12_heard 37 rfl) 0 rfl rfl ?_
        refine J_dup (dk okX12_heard 38 rfl) rfl ?_
        refine J_getI (dk okX12_heard 39 rfl) kfX12_418 ds_49 rfl ?_
        refine J_iconst (v := 1) (dk okX12_heard 40 rfl) (by decide) ?_
        refine J_iadd (dk okX12_heard 41 rfl) ?_
        refine J_put (dk okX12_heard 42 rfl) kpX12_418 ds_49 rfl rfl rfl ?_
        refine J_nm (fun μ9 eμ9 => ?_)
        refine J_aload_n (dk okX12_heard 43 rfl) 0 rfl rfl ?_
        refine J_getI (dk okX12_heard 44 rfl) kfX12_418 ds_49 rfl ?_
        subst eμ9 eμ8 eμ6 eμ1
        (try simp only [if_neg h2, if_neg h3, if_neg h4] at k ⊢)
        exact J_iret (dk okX12_heard 45 rfl) rfl k
      · refine J_iconst (v := (-1)) (dk okX12_heard 23 rfl) (by decide) ?_
        subst eμ1
        (try simp only [if_neg h2, if_neg h3, if_pos h4] at k ⊢)
        exact J_iret (dk okX12_heard 24 rfl) rfl k
/-- VotingFloorModel.leadsTo(II)I -/
def v_X12_leadsTo (p0 : Int32) (p1 : Int32) (μ : Mm) : Int32 := (if (v_X12_isOne p0 μ) = 0 then (-1) else (if (v_X12_in (Int32.toInt64 p1) (-9) 9) = 0 then (-1) else (if (if 0 ≤ (p1 - (μ.1 52 (Int32.toNatClampNeg (7 + p0)))) then (p1 - (μ.1 52 (Int32.toNatClampNeg (7 + p0)))) else 0 - (p1 - (μ.1 52 (Int32.toNatClampNeg (7 + p0))))) = 0 then (-2) else (if 0 ≤ (p1 - (μ.1 52 (Int32.toNatClampNeg (7 + p0)))) then (p1 - (μ.1 52 (Int32.toNatClampNeg (7 + p0)))) else 0 - (p1 - (μ.1 52 (Int32.toNatClampNeg (7 + p0))))) : Int32)))
def e_X12_leadsTo (p0 : Int32) (p1 : Int32) (μ : Mm) : Mm := (if (v_X12_isOne p0 μ) = 0 then μ else (if (v_X12_in (Int32.toInt64 p1) (-9) 9) = 0 then μ else (let μ5 : Mm := (upI μ 52 (Int32.toNatClampNeg (7 + p0)) p1); μ5)))
def p_X12_leadsTo (p0 : Int32) (p1 : Int32)  (μ : Mm) : Prop := (¬ ((v_X12_isOne p0 μ) = 0) → (¬ ((v_X12_in (Int32.toInt64 p1) (-9) 9) = 0) → (vp_in (7 + p0) 24) ∧ vp_in (7 + p0) 24))
set_option maxRecDepth 20000 in
set_option maxHeartbeats 4000000 in
theorem con_X12_leadsTo {E : Ex} {Q : Option Value → Mm → Prop} {p0 : Int32} {p1 : Int32} {μ : Mm} (t : p_X12_leadsTo p0 p1  μ) (k : Q (some (.int (v_X12_leadsTo p0 p1 μ))) (e_X12_leadsTo p0 p1 μ)) : Con E 3 mX12_leadsTo [rf E 49, .int p0, .int p1] μ Q := by
  refine Con_J (by decide +kernel) (Nat.le_of_ble_eq_true rfl) (fun G => ?_)
  unfold v_X12_leadsTo e_X12_leadsTo at k
  unfold p_X12_leadsTo at t
  refine J_sub (ls' := [(0, rf E 49), (1, .int p0), (2, .int p1)]) [0, 1, 2] rfl ?_
  refine J_aload_n (dk okX12_leadsTo 0 rfl) 0 rfl rfl ?_
  refine J_iload_n (dk okX12_leadsTo 1 rfl) 1 rfl rfl ?_
  refine J_callVi (As := [.int p0]) (dk okX12_leadsTo 2 rfl) ds_49 rfl vkX12_isOne lkX12_267 rfl rfl (Nat.le_of_ble_eq_true rfl) (by decide) (con_X12_isOne  ⟨_, rfl, ?_⟩)
  refine J_if_eq (tgt := 22) (dk okX12_leadsTo 3 rfl) (by decide) (fun h1 => ?_) (fun h1 => ?_)
  · refine J_iconst (v := (-1)) (dk okX12_leadsTo 10 rfl) (by decide) ?_
    (try simp only [if_pos h1] at k ⊢)
    exact J_iret (dk okX12_leadsTo 11 rfl) rfl k
  · have t := t h1
    refine J_iload_n (dk okX12_leadsTo 4 rfl) 2 rfl rfl ?_
    refine J_i2l (dk okX12_leadsTo 5 rfl) ?_
    refine J_ldc2 (v := (-9)) (dk okX12_leadsTo 6 rfl) kcX12_263 ?_
    refine J_ldc2 (v := 9) (dk okX12_leadsTo 7 rfl) kcX12_265 ?_
    refine J_callSi (As := [.long (Int32.toInt64 p1), .long (-9), .long 9]) (dk okX12_leadsTo 8 rfl) skX12_in lkX12_114 rfl rfl (Nat.le_of_ble_eq_true rfl) (by decide) (con_X12_in  ⟨_, rfl, ?_⟩)
    refine J_if_ne (tgt := 24) (dk okX12_leadsTo 9 rfl) (by decide) (fun h2 => ?_) (fun h2 => ?_)
    · have t := t h2
      refine J_iload_n (dk okX12_leadsTo 12 rfl) 2 rfl rfl ?_
      refine J_aload_n (dk okX12_leadsTo 13 rfl) 0 rfl rfl ?_
      refine J_getR (dk okX12_leadsTo 14 rfl) kfX12_32 ds_49 rfl ?_
      refine J_bipush (v := 7) (dk okX12_leadsTo 15 rfl) (by decide) ?_
      refine J_iload_n (dk okX12_leadsTo 16 rfl) 1 rfl rfl ?_
      refine J_iadd (dk okX12_leadsTo 17 rfl) ?_
      obtain ⟨s3, t⟩ := t
      refine J_iald (dk okX12_leadsTo 18 rfl) ds_52 s3 ?_
      refine J_isub (dk okX12_leadsTo 19 rfl) ?_
      refine J_mabs (dk okX12_leadsTo 20 rfl) lkX12_293 mk_abs_s mk_Math mk_abs_c (by decide) (Nat.le_of_ble_eq_true rfl) ?_
      refine J_istore_n (ls' := [(3, _), (0, _), (1, _), (2, _)]) (dk okX12_leadsTo 21 rfl) rfl (by decide) rfl ?_
      refine J_aload_n (dk okX12_leadsTo 22 rfl) 1 rfl rfl ?_
      refine J_getR (dk okX12_leadsTo 23 rfl) kfX12_32 ds_49 rfl ?_
      refine J_bipush (v := 7) (dk okX12_leadsTo 24 rfl) (by decide) ?_
      refine J_iload_n (dk okX12_leadsTo 25 rfl) 2 rfl rfl ?_
      refine J_iadd (dk okX12_leadsTo 26 rfl) ?_
      refine J_iload_n (dk okX12_leadsTo 27 rfl) 3 rfl rfl ?_
      have s4 := t
      refine J_iast (dk okX12_leadsTo 28 rfl) ds_52 s4 ?_
      refine J_nm (fun μ5 eμ5 => ?_)
      refine J_iload_n (dk okX12_leadsTo 29 rfl) 0 rfl rfl ?_
      have K7 : J E G 3 mX12_leadsTo Q 59 [] [.int (if (if 0 ≤ (p1 - (μ.1 52 (Int32.toNatClampNeg (7 + p0)))) then (p1 - (μ.1 52 (Int32.toNatClampNeg (7 + p0)))) else 0 - (p1 - (μ.1 52 (Int32.toNatClampNeg (7 + p0))))) = 0 then (-2) else (if 0 ≤ (p1 - (μ.1 52 (Int32.toNatClampNeg (7 + p0)))) then (p1 - (μ.1 52 (Int32.toNatClampNeg (7 + p0)))) else 0 - (p1 - (μ.1 52 (Int32.toNatClampNeg (7 + p0))))) : Int32)] μ5 := by
        subst eμ5
        (try simp only [if_neg h1, if_neg h2] at k ⊢)
        exact J_iret (dk okX12_leadsTo 34 rfl) rfl k
      refine J_if_ne (tgt := 58) (dk okX12_leadsTo 30 rfl) (by decide) (fun h6 => ?_) (fun h6 => ?_)
      · refine J_iload_n (dk okX12_leadsTo 33 rfl) 0 rfl rfl ?_
        refine J_sub (ls' := []) [] rfl ?_
        (try simp only [if_neg h6] at K7 ⊢); exact K7
      · refine J_bipush (v := (-2)) (dk okX12_leadsTo 31 rfl) (by decide) ?_
        refine J_goto (tgt := 59) (dk okX12_leadsTo 32 rfl) (by decide) ?_
        refine J_sub (ls' := []) [] rfl ?_
        (try simp only [if_pos h6] at K7 ⊢); exact K7
    · refine J_iconst (v := (-1)) (dk okX12_leadsTo 10 rfl) (by decide) ?_
      (try simp only [if_neg h1, if_pos h2] at k ⊢)
      exact J_iret (dk okX12_leadsTo 11 rfl) rfl k
/-- VotingFloorModel.sacksTo(II)I -/
def v_X12_sacksTo (p0 : Int32) (p1 : Int32) (μ : Mm) : Int32 := (if (v_X12_isOne p0 μ) = 0 then (-1) else (if (v_X12_in (Int32.toInt64 p1) 0 9) = 0 then (-1) else (v_X12_becomes (14 + p0) p1 0 μ) : Int32) : Int32)
def e_X12_sacksTo (p0 : Int32) (p1 : Int32) (μ : Mm) : Mm := (let μ5 : Mm := (if (v_X12_isOne p0 μ) = 0 then μ else (if (v_X12_in (Int32.toInt64 p1) 0 9) = 0 then μ else ((e_X12_becomes (14 + p0) p1 0 μ)) : Mm) : Mm); μ5)
def p_X12_sacksTo (p0 : Int32) (p1 : Int32)  (μ : Mm) : Prop := (¬ ((v_X12_isOne p0 μ) = 0) → (¬ ((v_X12_in (Int32.toInt64 p1) 0 9) = 0) → p_X12_becomes (14 + p0) p1 0))
set_option maxRecDepth 20000 in
set_option maxHeartbeats 4000000 in
theorem con_X12_sacksTo {E : Ex} {Q : Option Value → Mm → Prop} {p0 : Int32} {p1 : Int32} {μ : Mm} (t : p_X12_sacksTo p0 p1  μ) (k : Q (some (.int (v_X12_sacksTo p0 p1 μ))) (e_X12_sacksTo p0 p1 μ)) : Con E 3 mX12_sacksTo [rf E 49, .int p0, .int p1] μ Q := by
  refine Con_J (by decide +kernel) (Nat.le_of_ble_eq_true rfl) (fun G => ?_)
  unfold v_X12_sacksTo e_X12_sacksTo at k
  unfold p_X12_sacksTo at t
  refine J_sub (ls' := [(0, rf E 49), (1, .int p0), (2, .int p1)]) [0, 1, 2] rfl ?_
  refine J_aload_n (dk okX12_sacksTo 0 rfl) 0 rfl rfl ?_
  refine J_iload_n (dk okX12_sacksTo 1 rfl) 1 rfl rfl ?_
  refine J_callVi (As := [.int p0]) (dk okX12_sacksTo 2 rfl) ds_49 rfl vkX12_isOne lkX12_267 rfl rfl (Nat.le_of_ble_eq_true rfl) (by decide) (con_X12_isOne  ⟨_, rfl, ?_⟩)
  have K6 : J E G 3 mX12_sacksTo Q 34 [] [.int (if (v_X12_isOne p0 μ) = 0 then (-1) else (if (v_X12_in (Int32.toInt64 p1) 0 9) = 0 then (-1) else (v_X12_becomes (14 + p0) p1 0 μ) : Int32) : Int32)] (if (v_X12_isOne p0 μ) = 0 then μ else (if (v_X12_in (Int32.toInt64 p1) 0 9) = 0 then μ else ((e_X12_becomes (14 + p0) p1 0 μ)) : Mm) : Mm) := by
    refine J_nm (fun μ5 eμ5 => ?_)
    subst eμ5
    exact J_iret (dk okX12_sacksTo 19 rfl) rfl k
  refine J_if_eq (tgt := 33) (dk okX12_sacksTo 3 rfl) (by decide) (fun h1 => ?_) (fun h1 => ?_)
  · refine J_iconst (v := (-1)) (dk okX12_sacksTo 18 rfl) (by decide) ?_
    refine J_sub (ls' := []) [] rfl ?_
    (try simp only [if_pos h1] at K6 ⊢); exact K6
  · have t := t h1
    refine J_iload_n (dk okX12_sacksTo 4 rfl) 2 rfl rfl ?_
    refine J_i2l (dk okX12_sacksTo 5 rfl) ?_
    refine J_lconst (v := 0) (dk okX12_sacksTo 6 rfl) (by decide) ?_
    refine J_ldc2 (v := 9) (dk okX12_sacksTo 7 rfl) kcX12_265 ?_
    refine J_callSi (As := [.long (Int32.toInt64 p1), .long 0, .long 9]) (dk okX12_sacksTo 8 rfl) skX12_in lkX12_114 rfl rfl (Nat.le_of_ble_eq_true rfl) (by decide) (con_X12_in  ⟨_, rfl, ?_⟩)
    refine J_if_eq (tgt := 33) (dk okX12_sacksTo 9 rfl) (by decide) (fun h2 => ?_) (fun h2 => ?_)
    · refine J_iconst (v := (-1)) (dk okX12_sacksTo 18 rfl) (by decide) ?_
      refine J_sub (ls' := []) [] rfl ?_
      (try simp only [if_neg h1, if_pos h2] at K6 ⊢); exact K6
    · have t := t h2
      refine J_aload_n (dk okX12_sacksTo 10 rfl) 0 rfl rfl ?_
      refine J_bipush (v := 14) (dk okX12_sacksTo 11 rfl) (by decide) ?_
      refine J_iload_n (dk okX12_sacksTo 12 rfl) 1 rfl rfl ?_
      refine J_iadd (dk okX12_sacksTo 13 rfl) ?_
      refine J_iload_n (dk okX12_sacksTo 14 rfl) 2 rfl rfl ?_
      refine J_iconst (v := 0) (dk okX12_sacksTo 15 rfl) (by decide) ?_
      have s3 := t
      refine J_callVi (As := [.int (14 + p0), .int p1, .int 0]) (dk okX12_sacksTo 16 rfl) ds_49 rfl vkX12_becomes lkX12_296 rfl rfl (Nat.le_of_ble_eq_true rfl) (by decide) (con_X12_becomes s3 ⟨_, rfl, ?_⟩)
      refine J_nm (fun μ4 eμ4 => ?_)
      refine J_goto (tgt := 34) (dk okX12_sacksTo 17 rfl) (by decide) ?_
      subst eμ4
      refine J_sub (ls' := []) [] rfl ?_
      (try simp only [if_neg h1, if_neg h2] at K6 ⊢); exact K6
/-- VotingFloorModel.seen(III)I -/
def v_X12_seen (p0 : Int32) (p1 : Int32) (p2 : Int32) (μ : Mm) : Int32 := (let μ1 : Mm := (upI μ 49 0 0); (if (v_X12_isOne p0 μ1) = 0 then (-1) else (if (v_X12_in (Int32.toInt64 p1) 0 20) = 0 then (-1) else (if (v_X12_in (Int32.toInt64 p2) (-9) 9) = 0 then (-1) else (if (μ1.1 49 31) = 10 then (-1) else (let μ7 : Mm := (upI μ1 67 (Int32.toNatClampNeg (μ1.1 49 31)) p0); (let μ9 : Mm := (upI μ7 68 (Int32.toNatClampNeg (μ7.1 49 31)) p1); (let μ11 : Mm := (upI μ9 69 (Int32.toNatClampNeg (μ9.1 49 31)) p2); (let μ12 : Mm := (upI μ11 49 31 ((μ11.1 49 31) + 1)); (μ12.1 49 31))))))))))
def e_X12_seen (p0 : Int32) (p1 : Int32) (p2 : Int32) (μ : Mm) : Mm := (let μ1 : Mm := (upI μ 49 0 0); (if (v_X12_isOne p0 μ1) = 0 then μ1 else (if (v_X12_in (Int32.toInt64 p1) 0 20) = 0 then μ1 else (if (v_X12_in (Int32.toInt64 p2) (-9) 9) = 0 then μ1 else (if (μ1.1 49 31) = 10 then μ1 else (let μ7 : Mm := (upI μ1 67 (Int32.toNatClampNeg (μ1.1 49 31)) p0); (let μ9 : Mm := (upI μ7 68 (Int32.toNatClampNeg (μ7.1 49 31)) p1); (let μ11 : Mm := (upI μ9 69 (Int32.toNatClampNeg (μ9.1 49 31)) p2); (let μ12 : Mm := (upI μ11 49 31 ((μ11.1 49 31) + 1)); μ12)))))))))
def p_X12_seen (p0 : Int32) (p1 : Int32) (p2 : Int32)  (μ : Mm) : Prop := (∀ μ1 : Mm, μ1 = (upI μ 49 0 0) → (¬ ((v_X12_isOne p0 μ1) = 0) → (¬ ((v_X12_in (Int32.toInt64 p1) 0 20) = 0) → (¬ ((v_X12_in (Int32.toInt64 p2) (-9) 9) = 0) → (¬ ((μ1.1 49 31) = 10) → (vp_in (μ1.1 49 31) 10) ∧ (∀ μ7 : Mm, μ7 = (upI μ1 67 (Int32.toNatClampNeg (μ1.1 49 31)) p0) → (vp_in (μ7.1 49 31) 10) ∧ (∀ μ9 : Mm, μ9 = (upI μ7 68 (Int32.toNatClampNeg (μ7.1 49 31)) p1) → vp_in (μ9.1 49 31) 10)))))))
set_option maxRecDepth 20000 in
set_option maxHeartbeats 4000000 in
theorem con_X12_seen {E : Ex} {Q : Option Value → Mm → Prop} {p0 : Int32} {p1 : Int32} {p2 : Int32} {μ : Mm} (t : p_X12_seen p0 p1 p2  μ) (k : Q (some (.int (v_X12_seen p0 p1 p2 μ))) (e_X12_seen p0 p1 p2 μ)) : Con E 3 mX12_seen [rf E 49, .int p0, .int p1, .int p2] μ Q := by
  refine Con_J (by decide +kernel) (Nat.le_of_ble_eq_true rfl) (fun G => ?_)
  unfold v_X12_seen e_X12_seen at k
  unfold p_X12_seen at t
  refine J_sub (ls' := [(0, rf E 49), (1, .int p0), (2, .int p1), (3, .int p2)]) [0, 1, 2, 3] rfl ?_
  refine J_aload_n (dk okX12_seen 0 rfl) 0 rfl rfl ?_
  refine J_iconst (v := 0) (dk okX12_seen 1 rfl) (by decide) ?_
  refine J_put (dk okX12_seen 2 rfl) kpX12_3 ds_49 rfl rfl rfl ?_
  refine J_nm (fun μ1 eμ1 => ?_)
  have t := t μ1 eμ1
  refine J_aload_n (dk okX12_seen 3 rfl) 0 rfl rfl ?_
  refine J_iload_n (dk okX12_seen 4 rfl) 1 rfl rfl ?_
  refine J_callVi (As := [.int p0]) (dk okX12_seen 5 rfl) ds_49 rfl vkX12_isOne lkX12_267 rfl rfl (Nat.le_of_ble_eq_true rfl) (by decide) (con_X12_isOne  ⟨_, rfl, ?_⟩)
  refine J_if_eq (tgt := 48) (dk okX12_seen 6 rfl) (by decide) (fun h2 => ?_) (fun h2 => ?_)
  · refine J_iconst (v := (-1)) (dk okX12_seen 23 rfl) (by decide) ?_
    subst eμ1
    (try simp only [if_pos h2] at k ⊢)
    exact J_iret (dk okX12_seen 24 rfl) rfl k
  · have t := t h2
    refine J_iload_n (dk okX12_seen 7 rfl) 2 rfl rfl ?_
    refine J_i2l (dk okX12_seen 8 rfl) ?_
    refine J_lconst (v := 0) (dk okX12_seen 9 rfl) (by decide) ?_
    refine J_ldc2 (v := 20) (dk okX12_seen 10 rfl) kcX12_389 ?_
    refine J_callSi (As := [.long (Int32.toInt64 p1), .long 0, .long 20]) (dk okX12_seen 11 rfl) skX12_in lkX12_114 rfl rfl (Nat.le_of_ble_eq_true rfl) (by decide) (con_X12_in  ⟨_, rfl, ?_⟩)
    refine J_if_eq (tgt := 48) (dk okX12_seen 12 rfl) (by decide) (fun h3 => ?_) (fun h3 => ?_)
    · refine J_iconst (v := (-1)) (dk okX12_seen 23 rfl) (by decide) ?_
      subst eμ1
      (try simp only [if_neg h2, if_pos h3] at k ⊢)
      exact J_iret (dk okX12_seen 24 rfl) rfl k
    · have t := t h3
      refine J_iload_n (dk okX12_seen 13 rfl) 3 rfl rfl ?_
      refine J_i2l (dk okX12_seen 14 rfl) ?_
      refine J_ldc2 (v := (-9)) (dk okX12_seen 15 rfl) kcX12_263 ?_
      refine J_ldc2 (v := 9) (dk okX12_seen 16 rfl) kcX12_265 ?_
      refine J_callSi (As := [.long (Int32.toInt64 p2), .long (-9), .long 9]) (dk okX12_seen 17 rfl) skX12_in lkX12_114 rfl rfl (Nat.le_of_ble_eq_true rfl) (by decide) (con_X12_in  ⟨_, rfl, ?_⟩)
      refine J_if_eq (tgt := 48) (dk okX12_seen 18 rfl) (by decide) (fun h4 => ?_) (fun h4 => ?_)
      · refine J_iconst (v := (-1)) (dk okX12_seen 23 rfl) (by decide) ?_
        subst eμ1
        (try simp only [if_neg h2, if_neg h3, if_pos h4] at k ⊢)
        exact J_iret (dk okX12_seen 24 rfl) rfl k
      · have t := t h4
        refine J_aload_n (dk okX12_seen 19 rfl) 0 rfl rfl ?_
        refine J_getI (dk okX12_seen 20 rfl) kfX12_391 ds_49 rfl ?_
        refine J_bipush (v := 10) (dk okX12_seen 21 rfl) (by decide) ?_
        refine J_icmp_ne (tgt := 50) (dk okX12_seen 22 rfl) (by decide) (fun h5 => ?_) (fun h5 => ?_)
        · have t := t h5
          refine J_aload_n (dk okX12_seen 25 rfl) 0 rfl rfl ?_
          refine J_getR (dk okX12_seen 26 rfl) kfX12_77 ds_49 rfl ?_
          refine J_aload_n (dk okX12_seen 27 rfl) 0 rfl rfl ?_
          refine J_getI (dk okX12_seen 28 rfl) kfX12_391 ds_49 rfl ?_
          refine J_iload_n (dk okX12_seen 29 rfl) 1 rfl rfl ?_
          obtain ⟨s6, t⟩ := t
          refine J_iast (dk okX12_seen 30 rfl) ds_67 s6 ?_
          refine J_nm (fun μ7 eμ7 => ?_)
          have t := t μ7 eμ7
          refine J_aload_n (dk okX12_seen 31 rfl) 0 rfl rfl ?_
          refine J_getR (dk okX12_seen 32 rfl) kfX12_80 ds_49 rfl ?_
          refine J_aload_n (dk okX12_seen 33 rfl) 0 rfl rfl ?_
          refine J_getI (dk okX12_seen 34 rfl) kfX12_391 ds_49 rfl ?_
          refine J_iload_n (dk okX12_seen 35 rfl) 2 rfl rfl ?_
          obtain ⟨s8, t⟩ := t
          refine J_iast (dk okX12_seen 36 rfl) ds_68 s8 ?_
          refine J_nm (fun μ9 eμ9 => ?_)
          have t := t μ9 eμ9
          refine J_aload_n (dk okX12_seen 37 rfl) 0 rfl rfl ?_
          refine J_getR (dk okX12_seen 38 rfl) kfX12_83 ds_49 rfl ?_
          refine J_aload_n (dk okX12_seen 39 rfl) 0 rfl rfl ?_
          refine J_getI (dk okX12_seen 40 rfl) kfX12_391 ds_49 rfl ?_
          refine J_iload_n (dk okX12_seen 41 rfl) 3 rfl rfl ?_
          have s10 := t
          refine J_iast (dk okX12_seen 42 rfl) ds_69 s10 ?_
          refine J_nm (fun μ11 eμ11 => ?_)
          refine J_aload_n (dk okX12_seen 43 rfl) 0 rfl rfl ?_
          refine J_dup (dk okX12_seen 44 rfl) rfl ?_
          refine J_getI (dk okX12_seen 45 rfl) kfX12_391 ds_49 rfl ?_
          refine J_iconst (v := 1) (dk okX12_seen 46 rfl) (by decide) ?_
          refine J_iadd (dk okX12_seen 47 rfl) ?_
          refine J_put (dk okX12_seen 48 rfl) kpX12_391 ds_49 rfl rfl rfl ?_
          refine J_nm (fun μ12 eμ12 => ?_)
          refine J_aload_n (dk okX12_seen 49 rfl) 0 rfl rfl ?_
          refine J_getI (dk okX12_seen 50 rfl) kfX12_391 ds_49 rfl ?_
          subst eμ12 eμ11 eμ9 eμ7 eμ1
          (try simp only [if_neg h2, if_neg h3, if_neg h4, if_neg h5] at k ⊢)
          exact J_iret (dk okX12_seen 51 rfl) rfl k
        · refine J_iconst (v := (-1)) (dk okX12_seen 23 rfl) (by decide) ?_
          subst eμ1
          (try simp only [if_neg h2, if_neg h3, if_neg h4, if_pos h5] at k ⊢)
          exact J_iret (dk okX12_seen 24 rfl) rfl k
/-- VotingFloorModel.stepsOff([II)I -/
def v_X12_stepsOff (p0 : Nat) (p1 : Int32) (μ : Mm) : Int32 := (if (v_X12_isOne p1 μ) = 0 then (-1) else (let μ2 : Mm := (upI μ p0 (Int32.toNatClampNeg 21) ((μ.1 p0 (Int32.toNatClampNeg 21)) ^^^ (1 <<< (p1 &&& 31)))); (v_J6_bitCount_0f7a4 (v_X12_here p0 μ2))))
def e_X12_stepsOff (p0 : Nat) (p1 : Int32) (μ : Mm) : Mm := (if (v_X12_isOne p1 μ) = 0 then μ else (let μ2 : Mm := (upI μ p0 (Int32.toNatClampNeg 21) ((μ.1 p0 (Int32.toNatClampNeg 21)) ^^^ (1 <<< (p1 &&& 31)))); μ2))
set_option maxRecDepth 20000 in
set_option maxHeartbeats 4000000 in
theorem con_X12_stepsOff {E : Ex} {Q : Option Value → Mm → Prop} {p0 : Nat} {p1 : Int32} {μ : Mm} (hp0 : dscL[p0]? = some (.inr (.inl (1, 24)))) (k : Q (some (.int (v_X12_stepsOff p0 p1 μ))) (e_X12_stepsOff p0 p1 μ)) : Con E 3 mX12_stepsOff [rf E 49, rf E p0, .int p1] μ Q := by
  refine Con_J (by decide +kernel) (Nat.le_of_ble_eq_true rfl) (fun G => ?_)
  unfold v_X12_stepsOff e_X12_stepsOff at k
  refine J_sub (ls' := [(0, rf E 49), (1, rf E p0), (2, .int p1)]) [0, 1, 2] rfl ?_
  refine J_aload_n (dk okX12_stepsOff 0 rfl) 0 rfl rfl ?_
  refine J_iload_n (dk okX12_stepsOff 1 rfl) 2 rfl rfl ?_
  refine J_callVi (As := [.int p1]) (dk okX12_stepsOff 2 rfl) ds_49 rfl vkX12_isOne lkX12_267 rfl rfl (Nat.le_of_ble_eq_true rfl) (by decide) (con_X12_isOne  ⟨_, rfl, ?_⟩)
  refine J_if_ne (tgt := 10) (dk okX12_stepsOff 3 rfl) (by decide) (fun h1 => ?_) (fun h1 => ?_)
  · refine J_aload_n (dk okX12_stepsOff 6 rfl) 1 rfl rfl ?_
    refine J_bipush (v := 21) (dk okX12_stepsOff 7 rfl) (by decide) ?_
    refine J_dup2 (dk okX12_stepsOff 8 rfl) rfl rfl ?_
    refine J_iald (dk okX12_stepsOff 9 rfl) hp0 (by unfold vp_in; decide) ?_
    refine J_iconst (v := 1) (dk okX12_stepsOff 10 rfl) (by decide) ?_
    refine J_iload_n (dk okX12_stepsOff 11 rfl) 2 rfl rfl ?_
    refine J_ishl (dk okX12_stepsOff 12 rfl) ?_
    refine J_ixor (dk okX12_stepsOff 13 rfl) ?_
    refine J_iast (dk okX12_stepsOff 14 rfl) hp0 (by unfold vp_in; decide) ?_
    refine J_nm (fun μ2 eμ2 => ?_)
    refine J_aload_n (dk okX12_stepsOff 15 rfl) 0 rfl rfl ?_
    refine J_aload_n (dk okX12_stepsOff 16 rfl) 1 rfl rfl ?_
    refine J_callVi (As := [rf E p0]) (dk okX12_stepsOff 17 rfl) ds_49 rfl vkX12_here lkX12_122 rfl rfl (Nat.le_of_ble_eq_true rfl) (by decide) (con_X12_here hp0 ⟨_, rfl, ?_⟩)
    refine J_callSi (As := [.int (v_X12_here p0 μ2)]) (dk okX12_stepsOff 18 rfl) skJ6_bitCount_0f7a4 lkX12_299 rfl rfl (Nat.le_of_ble_eq_true rfl) (by decide) (con_J6_bitCount_0f7a4  ⟨_, rfl, ?_⟩)
    subst eμ2
    (try simp only [if_neg h1] at k ⊢)
    exact J_iret (dk okX12_stepsOff 19 rfl) rfl k
  · refine J_iconst (v := (-1)) (dk okX12_stepsOff 4 rfl) (by decide) ?_
    (try simp only [if_pos h1] at k ⊢)
    exact J_iret (dk okX12_stepsOff 5 rfl) rfl k
/-- VotingFloorModel.wishesTo(II)I -/
def v_X12_wishesTo (p0 : Int32) (p1 : Int32) (μ : Mm) : Int32 := (if (v_X12_isOne p0 μ) = 0 then (-1) else (if (v_X12_in (Int32.toInt64 p1) (-9) 9) = 0 then (-1) else (v_X12_becomes p0 p1 100 μ) : Int32) : Int32)
def e_X12_wishesTo (p0 : Int32) (p1 : Int32) (μ : Mm) : Mm := (let μ5 : Mm := (if (v_X12_isOne p0 μ) = 0 then μ else (if (v_X12_in (Int32.toInt64 p1) (-9) 9) = 0 then μ else ((e_X12_becomes p0 p1 100 μ)) : Mm) : Mm); μ5)
def p_X12_wishesTo (p0 : Int32) (p1 : Int32)  (μ : Mm) : Prop := (¬ ((v_X12_isOne p0 μ) = 0) → (¬ ((v_X12_in (Int32.toInt64 p1) (-9) 9) = 0) → p_X12_becomes p0 p1 100))
set_option maxRecDepth 20000 in
set_option maxHeartbeats 4000000 in
theorem con_X12_wishesTo {E : Ex} {Q : Option Value → Mm → Prop} {p0 : Int32} {p1 : Int32} {μ : Mm} (t : p_X12_wishesTo p0 p1  μ) (k : Q (some (.int (v_X12_wishesTo p0 p1 μ))) (e_X12_wishesTo p0 p1 μ)) : Con E 3 mX12_wishesTo [rf E 49, .int p0, .int p1] μ Q := by
  refine Con_J (by decide +kernel) (Nat.le_of_ble_eq_true rfl) (fun G => ?_)
  unfold v_X12_wishesTo e_X12_wishesTo at k
  unfold p_X12_wishesTo at t
  refine J_sub (ls' := [(0, rf E 49), (1, .int p0), (2, .int p1)]) [0, 1, 2] rfl ?_
  refine J_aload_n (dk okX12_wishesTo 0 rfl) 0 rfl rfl ?_
  refine J_iload_n (dk okX12_wishesTo 1 rfl) 1 rfl rfl ?_
  refine J_callVi (As := [.int p0]) (dk okX12_wishesTo 2 rfl) ds_49 rfl vkX12_isOne lkX12_267 rfl rfl (Nat.le_of_ble_eq_true rfl) (by decide) (con_X12_isOne  ⟨_, rfl, ?_⟩)
  have K6 : J E G 3 mX12_wishesTo Q 34 [] [.int (if (v_X12_isOne p0 μ) = 0 then (-1) else (if (v_X12_in (Int32.toInt64 p1) (-9) 9) = 0 then (-1) else (v_X12_becomes p0 p1 100 μ) : Int32) : Int32)] (if (v_X12_isOne p0 μ) = 0 then μ else (if (v_X12_in (Int32.toInt64 p1) (-9) 9) = 0 then μ else ((e_X12_becomes p0 p1 100 μ)) : Mm) : Mm) := by
    refine J_nm (fun μ5 eμ5 => ?_)
    subst eμ5
    exact J_iret (dk okX12_wishesTo 17 rfl) rfl k
  refine J_if_eq (tgt := 33) (dk okX12_wishesTo 3 rfl) (by decide) (fun h1 => ?_) (fun h1 => ?_)
  · refine J_iconst (v := (-1)) (dk okX12_wishesTo 16 rfl) (by decide) ?_
    refine J_sub (ls' := []) [] rfl ?_
    (try simp only [if_pos h1] at K6 ⊢); exact K6
  · have t := t h1
    refine J_iload_n (dk okX12_wishesTo 4 rfl) 2 rfl rfl ?_
    refine J_i2l (dk okX12_wishesTo 5 rfl) ?_
    refine J_ldc2 (v := (-9)) (dk okX12_wishesTo 6 rfl) kcX12_263 ?_
    refine J_ldc2 (v := 9) (dk okX12_wishesTo 7 rfl) kcX12_265 ?_
    refine J_callSi (As := [.long (Int32.toInt64 p1), .long (-9), .long 9]) (dk okX12_wishesTo 8 rfl) skX12_in lkX12_114 rfl rfl (Nat.le_of_ble_eq_true rfl) (by decide) (con_X12_in  ⟨_, rfl, ?_⟩)
    refine J_if_eq (tgt := 33) (dk okX12_wishesTo 9 rfl) (by decide) (fun h2 => ?_) (fun h2 => ?_)
    · refine J_iconst (v := (-1)) (dk okX12_wishesTo 16 rfl) (by decide) ?_
      refine J_sub (ls' := []) [] rfl ?_
      (try simp only [if_neg h1, if_pos h2] at K6 ⊢); exact K6
    · have t := t h2
      refine J_aload_n (dk okX12_wishesTo 10 rfl) 0 rfl rfl ?_
      refine J_iload_n (dk okX12_wishesTo 11 rfl) 1 rfl rfl ?_
      refine J_iload_n (dk okX12_wishesTo 12 rfl) 2 rfl rfl ?_
      refine J_bipush (v := 100) (dk okX12_wishesTo 13 rfl) (by decide) ?_
      have s3 := t
      refine J_callVi (As := [.int p0, .int p1, .int 100]) (dk okX12_wishesTo 14 rfl) ds_49 rfl vkX12_becomes lkX12_296 rfl rfl (Nat.le_of_ble_eq_true rfl) (by decide) (con_X12_becomes s3 ⟨_, rfl, ?_⟩)
      refine J_nm (fun μ4 eμ4 => ?_)
      refine J_goto (tgt := 34) (dk okX12_wishesTo 15 rfl) (by decide) ?_
      subst eμ4
      refine J_sub (ls' := []) [] rfl ?_
      (try simp only [if_neg h1, if_neg h2] at K6 ⊢); exact K6
/-- VotingFloor$Floor.areBackToBack(II)Z -/
def v_X1_areBackToBack (b : Nat) (p0 : Int32) (p1 : Int32) (μ : Mm) : Int32 := (if (v_X1_isOff b p0 μ) = 0 then (if (v_X1_isOff b p1 μ) = 0 then (if (v_X1_placeOf b p0 μ) = 0 then 0 else (if (v_X1_placeOf b p0 μ) = (-(v_X1_placeOf b p1 μ)) then (if (v_X1_load b p0 μ) = (v_X1_load b p1 μ) then 1 else 0 : Int32) else 0 : Int32) : Int32) else 0 : Int32) else 0 : Int32)
def p_X1_areBackToBack (b : Nat) (p0 : Int32) (p1 : Int32)  (μ : Mm) : Prop := ((v_X1_isOff b p0 μ) = 0 → ((v_X1_isOff b p1 μ) = 0 → (p_X1_placeOf b p0 μ) ∧ (¬ ((v_X1_placeOf b p0 μ) = 0) → (p_X1_placeOf b p0 μ) ∧ (p_X1_placeOf b p1 μ) ∧ ((v_X1_placeOf b p0 μ) = (-(v_X1_placeOf b p1 μ)) → (p_X1_load b p0 μ) ∧ p_X1_load b p1 μ))))
set_option maxRecDepth 20000 in
set_option maxHeartbeats 4000000 in
theorem con_X1_areBackToBack {E : Ex} {Q : Option Value → Mm → Prop} {b : Nat} {p0 : Int32} {p1 : Int32} {μ : Mm} (hb : FloorAt b) (t : p_X1_areBackToBack b p0 p1  μ) (k : Q (some (.int (v_X1_areBackToBack b p0 p1 μ))) μ) : Con E 3 mX1_areBackToBack [rf E b, .int p0, .int p1] μ Q := by
  refine Con_J (by decide +kernel) (Nat.le_of_ble_eq_true rfl) (fun G => ?_)
  unfold v_X1_areBackToBack at k
  unfold p_X1_areBackToBack at t
  refine J_sub (ls' := [(0, rf E b), (1, .int p0), (2, .int p1)]) [0, 1, 2] rfl ?_
  refine J_aload_n (dk okX1_areBackToBack 0 rfl) 0 rfl rfl ?_
  refine J_iload_n (dk okX1_areBackToBack 1 rfl) 1 rfl rfl ?_
  refine J_callVi (As := [.int p0]) (dk okX1_areBackToBack 2 rfl) hb.1 rfl vkX1_isOff lkX1_53 rfl rfl (Nat.le_of_ble_eq_true rfl) (by decide) (con_X1_isOff hb ⟨_, rfl, ?_⟩)
  have K11 : J E G 3 mX1_areBackToBack Q 56 [] [.int (if (v_X1_isOff b p0 μ) = 0 then (if (v_X1_isOff b p1 μ) = 0 then (if (v_X1_placeOf b p0 μ) = 0 then 0 else (if (v_X1_placeOf b p0 μ) = (-(v_X1_placeOf b p1 μ)) then (if (v_X1_load b p0 μ) = (v_X1_load b p1 μ) then 1 else 0 : Int32) else 0 : Int32) : Int32) else 0 : Int32) else 0 : Int32)] μ := by
    exact J_zret (dk okX1_areBackToBack 30 rfl) rfl (by (repeat' split) <;> first | rfl | (simp only [*]; rfl)) k
  refine J_if_ne (tgt := 55) (dk okX1_areBackToBack 3 rfl) (by decide) (fun h1 => ?_) (fun h1 => ?_)
  · refine J_iconst (v := 0) (dk okX1_areBackToBack 29 rfl) (by decide) ?_
    refine J_sub (ls' := []) [] rfl ?_
    (try simp only [if_neg h1] at K11 ⊢); exact K11
  · have t := t h1
    refine J_aload_n (dk okX1_areBackToBack 4 rfl) 0 rfl rfl ?_
    refine J_iload_n (dk okX1_areBackToBack 5 rfl) 2 rfl rfl ?_
    refine J_callVi (As := [.int p1]) (dk okX1_areBackToBack 6 rfl) hb.1 rfl vkX1_isOff lkX1_53 rfl rfl (Nat.le_of_ble_eq_true rfl) (by decide) (con_X1_isOff hb ⟨_, rfl, ?_⟩)
    refine J_if_ne (tgt := 55) (dk okX1_areBackToBack 7 rfl) (by decide) (fun h2 => ?_) (fun h2 => ?_)
    · refine J_iconst (v := 0) (dk okX1_areBackToBack 29 rfl) (by decide) ?_
      refine J_sub (ls' := []) [] rfl ?_
      (try simp only [if_pos h1, if_neg h2] at K11 ⊢); exact K11
    · have t := t h2
      refine J_aload_n (dk okX1_areBackToBack 8 rfl) 0 rfl rfl ?_
      refine J_iload_n (dk okX1_areBackToBack 9 rfl) 1 rfl rfl ?_
      obtain ⟨s3, t⟩ := t
      refine J_callVi (As := [.int p0]) (dk okX1_areBackToBack 10 rfl) hb.1 rfl vkX1_placeOf lkX1_60 rfl rfl (Nat.le_of_ble_eq_true rfl) (by decide) (con_X1_placeOf hb s3 ⟨_, rfl, ?_⟩)
      refine J_if_eq (tgt := 55) (dk okX1_areBackToBack 11 rfl) (by decide) (fun h4 => ?_) (fun h4 => ?_)
      · refine J_iconst (v := 0) (dk okX1_areBackToBack 29 rfl) (by decide) ?_
        refine J_sub (ls' := []) [] rfl ?_
        (try simp only [if_pos h1, if_pos h2, if_pos h4] at K11 ⊢); exact K11
      · have t := t h4
        refine J_aload_n (dk okX1_areBackToBack 12 rfl) 0 rfl rfl ?_
        refine J_iload_n (dk okX1_areBackToBack 13 rfl) 1 rfl rfl ?_
        obtain ⟨s5, t⟩ := t
        refine J_callVi (As := [.int p0]) (dk okX1_areBackToBack 14 rfl) hb.1 rfl vkX1_placeOf lkX1_60 rfl rfl (Nat.le_of_ble_eq_true rfl) (by decide) (con_X1_placeOf hb s5 ⟨_, rfl, ?_⟩)
        refine J_aload_n (dk okX1_areBackToBack 15 rfl) 0 rfl rfl ?_
        refine J_iload_n (dk okX1_areBackToBack 16 rfl) 2 rfl rfl ?_
        obtain ⟨s6, t⟩ := t
        refine J_callVi (As := [.int p1]) (dk okX1_areBackToBack 17 rfl) hb.1 rfl vkX1_placeOf lkX1_60 rfl rfl (Nat.le_of_ble_eq_true rfl) (by decide) (con_X1_placeOf hb s6 ⟨_, rfl, ?_⟩)
        refine J_ineg (dk okX1_areBackToBack 18 rfl) ?_
        refine J_icmp_ne (tgt := 55) (dk okX1_areBackToBack 19 rfl) (by decide) (fun h7 => ?_) (fun h7 => ?_)
        · refine J_iconst (v := 0) (dk okX1_areBackToBack 29 rfl) (by decide) ?_
          refine J_sub (ls' := []) [] rfl ?_
          (try simp only [if_pos h1, if_pos h2, if_neg h4, if_neg h7] at K11 ⊢); exact K11
        · have t := t h7
          refine J_aload_n (dk okX1_areBackToBack 20 rfl) 0 rfl rfl ?_
          refine J_iload_n (dk okX1_areBackToBack 21 rfl) 1 rfl rfl ?_
          obtain ⟨s8, t⟩ := t
          refine J_callVi (As := [.int p0]) (dk okX1_areBackToBack 22 rfl) hb.1 rfl vkX1_load lkX1_56 rfl rfl (Nat.le_of_ble_eq_true rfl) (by decide) (con_X1_load hb s8 ⟨_, rfl, ?_⟩)
          refine J_aload_n (dk okX1_areBackToBack 23 rfl) 0 rfl rfl ?_
          refine J_iload_n (dk okX1_areBackToBack 24 rfl) 2 rfl rfl ?_
          have s9 := t
          refine J_callVi (As := [.int p1]) (dk okX1_areBackToBack 25 rfl) hb.1 rfl vkX1_load lkX1_56 rfl rfl (Nat.le_of_ble_eq_true rfl) (by decide) (con_X1_load hb s9 ⟨_, rfl, ?_⟩)
          refine J_icmp_ne (tgt := 55) (dk okX1_areBackToBack 26 rfl) (by decide) (fun h10 => ?_) (fun h10 => ?_)
          · refine J_iconst (v := 0) (dk okX1_areBackToBack 29 rfl) (by decide) ?_
            refine J_sub (ls' := []) [] rfl ?_
            (try simp only [if_pos h1, if_pos h2, if_neg h4, if_pos h7, if_neg h10] at K11 ⊢); exact K11
          · refine J_iconst (v := 1) (dk okX1_areBackToBack 27 rfl) (by decide) ?_
            refine J_goto (tgt := 56) (dk okX1_areBackToBack 28 rfl) (by decide) ?_
            refine J_sub (ls' := []) [] rfl ?_
            (try simp only [if_pos h1, if_pos h2, if_neg h4, if_pos h7, if_pos h10] at K11 ⊢); exact K11
theorem nb_X1_areBackToBack (b : Nat) (p0 : Int32) (p1 : Int32) (μ : Mm) : narrow .boolean (.int (v_X1_areBackToBack b p0 p1 μ)) = .int (v_X1_areBackToBack b p0 p1 μ) := by
  unfold v_X1_areBackToBack; (repeat' split) <;> rfl
/-- VotingFloor$Hearsay.isSo(LVotingFloor$Floor;III)Z -/
def v_X2_isSo (p0 : Nat) (p1 : Int32) (p2 : Int32) (p3 : Int32) (μ : Mm) : Int32 := (if (v_X1_has p0 p1 μ) = 0 then 0 else (if p2 = 0 then (if (v_X1_load p0 p1 μ) < p3 then 0 else 1 : Int32) else (if p2 = 1 then (if (if (μ.1 (p0 + 2) (Int32.toNatClampNeg p1)) ≤ 0 then 0 else 1 : Int32) = (if p3 = 1 then 1 else 0 : Int32) then 1 else 0 : Int32) else (if p2 = 2 then (if (if 0 ≤ (μ.1 (p0 + 3) (Int32.toNatClampNeg p1)) then (μ.1 (p0 + 3) (Int32.toNatClampNeg p1)) else 0 - (μ.1 (p0 + 3) (Int32.toNatClampNeg p1))) < p3 then 0 else 1 : Int32) else (if p2 = 3 then (if (if (μ.1 (p0 + 3) (Int32.toNatClampNeg p1)) ≤ 0 then 0 else 1 : Int32) = (if p3 = 1 then 1 else 0 : Int32) then 1 else 0 : Int32) else (if (v_X1_isOff p0 p1 μ) = (if p3 = 1 then 1 else 0 : Int32) then 1 else 0 : Int32))))))
def p_X2_isSo (p0 : Nat) (p1 : Int32) (p2 : Int32) (p3 : Int32)  (μ : Mm) : Prop := (¬ ((v_X1_has p0 p1 μ) = 0) → ((p2 = 0 → p_X1_load p0 p1 μ) ∧ (¬ (p2 = 0) → ((p2 = 1 → vp_in p1 7) ∧ (¬ (p2 = 1) → ((p2 = 2 → vp_in p1 7) ∧ (¬ (p2 = 2) → (p2 = 3 → vp_in p1 7))))))))
set_option maxRecDepth 20000 in
set_option maxHeartbeats 4000000 in
theorem con_X2_isSo {E : Ex} {Q : Option Value → Mm → Prop} {p0 : Nat} {p1 : Int32} {p2 : Int32} {p3 : Int32} {μ : Mm} (hp0 : FloorAt p0) (t : p_X2_isSo p0 p1 p2 p3  μ) (k : Q (some (.int (v_X2_isSo p0 p1 p2 p3 μ))) μ) : Con E 3 mX2_isSo [rf E p0, .int p1, .int p2, .int p3] μ Q := by
  refine Con_J (by decide +kernel) (Nat.le_of_ble_eq_true rfl) (fun G => ?_)
  unfold v_X2_isSo at k
  unfold p_X2_isSo at t
  refine J_sub (ls' := [(0, rf E p0), (1, .int p1), (2, .int p2), (3, .int p3)]) [0, 1, 2, 3] rfl ?_
  refine J_aload_n (dk okX2_isSo 0 rfl) 0 rfl rfl ?_
  refine J_iload_n (dk okX2_isSo 1 rfl) 1 rfl rfl ?_
  refine J_callVi (As := [.int p1]) (dk okX2_isSo 2 rfl) hp0.1 rfl vkX1_has lkX2_22 rfl rfl (Nat.le_of_ble_eq_true rfl) (by decide) (con_X1_has hp0 ⟨_, rfl, ?_⟩)
  refine J_if_ne (tgt := 10) (dk okX2_isSo 3 rfl) (by decide) (fun h1 => ?_) (fun h1 => ?_)
  · have t := t h1
    refine J_iload_n (dk okX2_isSo 6 rfl) 2 rfl rfl ?_
    by_cases h3 : p2 = 0
    · have t := t.1 h3
      refine J_at h3 (J_tableIn (x := 0) (off := 29) (tgt := 40) (dk okX2_isSo 7 rfl) (by decide) (by decide) (by decide) (by decide) ?_)
      refine J_aload_n (dk okX2_isSo 8 rfl) 0 rfl rfl ?_
      refine J_iload_n (dk okX2_isSo 9 rfl) 1 rfl rfl ?_
      have s4 := t
      refine J_callVi (As := [.int p1]) (dk okX2_isSo 10 rfl) hp0.1 rfl vkX1_load lkX2_28 rfl rfl (Nat.le_of_ble_eq_true rfl) (by decide) (con_X1_load hp0 s4 ⟨_, rfl, ?_⟩)
      refine J_iload_n (dk okX2_isSo 11 rfl) 3 rfl rfl ?_
      have K6 : J E G 3 mX2_isSo Q 54 [] [.int (if (v_X1_load p0 p1 μ) < p3 then 0 else 1 : Int32)] μ := by
        (try simp only [if_neg h1, if_pos h3] at k ⊢)
        exact J_zret (dk okX2_isSo 16 rfl) rfl (by (repeat' split) <;> first | rfl | (simp only [*]; rfl)) k
      refine J_icmp_lt (tgt := 53) (dk okX2_isSo 12 rfl) (by decide) (fun h5 => ?_) (fun h5 => ?_)
      · refine J_iconst (v := 0) (dk okX2_isSo 15 rfl) (by decide) ?_
        refine J_sub (ls' := []) [] rfl ?_
        (try simp only [if_pos h5] at K6 ⊢); exact K6
      · refine J_iconst (v := 1) (dk okX2_isSo 13 rfl) (by decide) ?_
        refine J_goto (tgt := 54) (dk okX2_isSo 14 rfl) (by decide) ?_
        refine J_sub (ls' := []) [] rfl ?_
        (try simp only [if_neg h5] at K6 ⊢); exact K6
    · have t := t.2 h3
      by_cases h7 : p2 = 1
      · have t := t.1 h7
        refine J_at h7 (J_tableIn (x := 1) (off := 44) (tgt := 55) (dk okX2_isSo 7 rfl) (by decide) (by decide) (by decide) (by decide) ?_)
        refine J_aload_n (dk okX2_isSo 17 rfl) 0 rfl rfl ?_
        refine J_getR (dk okX2_isSo 18 rfl) kfX2_32 hp0.1 rfl ?_
        refine J_iload_n (dk okX2_isSo 19 rfl) 1 rfl rfl ?_
        have s8 := t
        refine J_iald (dk okX2_isSo 20 rfl) hp0.2.2.1 s8 ?_
        have K10 : J E G 3 mX2_isSo Q 69 [(3, .int p3)] [.int (if (μ.1 (p0 + 2) (Int32.toNatClampNeg p1)) ≤ 0 then 0 else 1 : Int32)] μ := by
          refine J_iload_n (dk okX2_isSo 25 rfl) 0 rfl rfl ?_
          refine J_iconst (v := 1) (dk okX2_isSo 26 rfl) (by decide) ?_
          have K12 : J E G 3 mX2_isSo Q 79 [] [.int (if p3 = 1 then 1 else 0 : Int32), .int (if (μ.1 (p0 + 2) (Int32.toNatClampNeg p1)) ≤ 0 then 0 else 1 : Int32)] μ := by
            have K14 : J E G 3 mX2_isSo Q 87 [] [.int (if (if (μ.1 (p0 + 2) (Int32.toNatClampNeg p1)) ≤ 0 then 0 else 1 : Int32) = (if p3 = 1 then 1 else 0 : Int32) then 1 else 0 : Int32)] μ := by
              (try simp only [if_neg h1, if_neg h3, if_pos h7] at k ⊢)
              exact J_zret (dk okX2_isSo 35 rfl) rfl (by (repeat' split) <;> first | rfl | (simp only [*]; rfl)) k
            refine J_icmp_ne (tgt := 86) (dk okX2_isSo 31 rfl) (by decide) (fun h13 => ?_) (fun h13 => ?_)
            · refine J_iconst (v := 0) (dk okX2_isSo 34 rfl) (by decide) ?_
              refine J_sub (ls' := []) [] rfl ?_
              (try simp only [if_neg h13] at K14 ⊢); exact K14
            · refine J_iconst (v := 1) (dk okX2_isSo 32 rfl) (by decide) ?_
              refine J_goto (tgt := 87) (dk okX2_isSo 33 rfl) (by decide) ?_
              refine J_sub (ls' := []) [] rfl ?_
              (try simp only [if_pos h13] at K14 ⊢); exact K14
          refine J_icmp_ne (tgt := 78) (dk okX2_isSo 27 rfl) (by decide) (fun h11 => ?_) (fun h11 => ?_)
          · refine J_iconst (v := 0) (dk okX2_isSo 30 rfl) (by decide) ?_
            refine J_sub (ls' := []) [] rfl ?_
            (try simp only [if_neg h11] at K12 ⊢); exact K12
          · refine J_iconst (v := 1) (dk okX2_isSo 28 rfl) (by decide) ?_
            refine J_goto (tgt := 79) (dk okX2_isSo 29 rfl) (by decide) ?_
            refine J_sub (ls' := []) [] rfl ?_
            (try simp only [if_pos h11] at K12 ⊢); exact K12
        refine J_if_le (tgt := 68) (dk okX2_isSo 21 rfl) (by decide) (fun h9 => ?_) (fun h9 => ?_)
        · refine J_iconst (v := 0) (dk okX2_isSo 24 rfl) (by decide) ?_
          refine J_sub (ls' := [(3, _)]) [3] rfl ?_
          (try simp only [if_pos h9] at K10 ⊢); exact K10
        · refine J_iconst (v := 1) (dk okX2_isSo 22 rfl) (by decide) ?_
          refine J_goto (tgt := 69) (dk okX2_isSo 23 rfl) (by decide) ?_
          refine J_sub (ls' := [(3, _)]) [3] rfl ?_
          (try simp only [if_neg h9] at K10 ⊢); exact K10
      · have t := t.2 h7
        by_cases h15 : p2 = 2
        · have t := t.1 h15
          refine J_at h15 (J_tableIn (x := 2) (off := 77) (tgt := 88) (dk okX2_isSo 7 rfl) (by decide) (by decide) (by decide) (by decide) ?_)
          refine J_aload_n (dk okX2_isSo 36 rfl) 0 rfl rfl ?_
          refine J_getR (dk okX2_isSo 37 rfl) kfX2_35 hp0.1 rfl ?_
          refine J_iload_n (dk okX2_isSo 38 rfl) 1 rfl rfl ?_
          have s16 := t
          refine J_iald (dk okX2_isSo 39 rfl) hp0.2.2.2.1 s16 ?_
          refine J_mabs (dk okX2_isSo 40 rfl) lkX2_38 mk_abs_s mk_Math mk_abs_c (by decide) (Nat.le_of_ble_eq_true rfl) ?_
          refine J_iload_n (dk okX2_isSo 41 rfl) 3 rfl rfl ?_
          have K18 : J E G 3 mX2_isSo Q 106 [] [.int (if (if 0 ≤ (μ.1 (p0 + 3) (Int32.toNatClampNeg p1)) then (μ.1 (p0 + 3) (Int32.toNatClampNeg p1)) else 0 - (μ.1 (p0 + 3) (Int32.toNatClampNeg p1))) < p3 then 0 else 1 : Int32)] μ := by
            (try simp only [if_neg h1, if_neg h3, if_neg h7, if_pos h15] at k ⊢)
            exact J_zret (dk okX2_isSo 46 rfl) rfl (by (repeat' split) <;> first | rfl | (simp only [*]; rfl)) k
          refine J_icmp_lt (tgt := 105) (dk okX2_isSo 42 rfl) (by decide) (fun h17 => ?_) (fun h17 => ?_)
          · refine J_iconst (v := 0) (dk okX2_isSo 45 rfl) (by decide) ?_
            refine J_sub (ls' := []) [] rfl ?_
            (try simp only [if_pos h17] at K18 ⊢); exact K18
          · refine J_iconst (v := 1) (dk okX2_isSo 43 rfl) (by decide) ?_
            refine J_goto (tgt := 106) (dk okX2_isSo 44 rfl) (by decide) ?_
            refine J_sub (ls' := []) [] rfl ?_
            (try simp only [if_neg h17] at K18 ⊢); exact K18
        · have t := t.2 h15
          by_cases h19 : p2 = 3
          · have t := t h19
            refine J_at h19 (J_tableIn (x := 3) (off := 96) (tgt := 107) (dk okX2_isSo 7 rfl) (by decide) (by decide) (by decide) (by decide) ?_)
            refine J_aload_n (dk okX2_isSo 47 rfl) 0 rfl rfl ?_
            refine J_getR (dk okX2_isSo 48 rfl) kfX2_35 hp0.1 rfl ?_
            refine J_iload_n (dk okX2_isSo 49 rfl) 1 rfl rfl ?_
            have s20 := t
            refine J_iald (dk okX2_isSo 50 rfl) hp0.2.2.2.1 s20 ?_
            have K22 : J E G 3 mX2_isSo Q 121 [(3, .int p3)] [.int (if (μ.1 (p0 + 3) (Int32.toNatClampNeg p1)) ≤ 0 then 0 else 1 : Int32)] μ := by
              refine J_iload_n (dk okX2_isSo 55 rfl) 0 rfl rfl ?_
              refine J_iconst (v := 1) (dk okX2_isSo 56 rfl) (by decide) ?_
              have K24 : J E G 3 mX2_isSo Q 131 [] [.int (if p3 = 1 then 1 else 0 : Int32), .int (if (μ.1 (p0 + 3) (Int32.toNatClampNeg p1)) ≤ 0 then 0 else 1 : Int32)] μ := by
                have K26 : J E G 3 mX2_isSo Q 139 [] [.int (if (if (μ.1 (p0 + 3) (Int32.toNatClampNeg p1)) ≤ 0 then 0 else 1 : Int32) = (if p3 = 1 then 1 else 0 : Int32) then 1 else 0 : Int32)] μ := by
                  (try simp only [if_neg h1, if_neg h3, if_neg h7, if_neg h15, if_pos h19] at k ⊢)
                  exact J_zret (dk okX2_isSo 65 rfl) rfl (by (repeat' split) <;> first | rfl | (simp only [*]; rfl)) k
                refine J_icmp_ne (tgt := 138) (dk okX2_isSo 61 rfl) (by decide) (fun h25 => ?_) (fun h25 => ?_)
                · refine J_iconst (v := 0) (dk okX2_isSo 64 rfl) (by decide) ?_
                  refine J_sub (ls' := []) [] rfl ?_
                  (try simp only [if_neg h25] at K26 ⊢); exact K26
                · refine J_iconst (v := 1) (dk okX2_isSo 62 rfl) (by decide) ?_
                  refine J_goto (tgt := 139) (dk okX2_isSo 63 rfl) (by decide) ?_
                  refine J_sub (ls' := []) [] rfl ?_
                  (try simp only [if_pos h25] at K26 ⊢); exact K26
              refine J_icmp_ne (tgt := 130) (dk okX2_isSo 57 rfl) (by decide) (fun h23 => ?_) (fun h23 => ?_)
              · refine J_iconst (v := 0) (dk okX2_isSo 60 rfl) (by decide) ?_
                refine J_sub (ls' := []) [] rfl ?_
                (try simp only [if_neg h23] at K24 ⊢); exact K24
              · refine J_iconst (v := 1) (dk okX2_isSo 58 rfl) (by decide) ?_
                refine J_goto (tgt := 131) (dk okX2_isSo 59 rfl) (by decide) ?_
                refine J_sub (ls' := []) [] rfl ?_
                (try simp only [if_pos h23] at K24 ⊢); exact K24
            refine J_if_le (tgt := 120) (dk okX2_isSo 51 rfl) (by decide) (fun h21 => ?_) (fun h21 => ?_)
            · refine J_iconst (v := 0) (dk okX2_isSo 54 rfl) (by decide) ?_
              refine J_sub (ls' := [(3, _)]) [3] rfl ?_
              (try simp only [if_pos h21] at K22 ⊢); exact K22
            · refine J_iconst (v := 1) (dk okX2_isSo 52 rfl) (by decide) ?_
              refine J_goto (tgt := 121) (dk okX2_isSo 53 rfl) (by decide) ?_
              refine J_sub (ls' := [(3, _)]) [3] rfl ?_
              (try simp only [if_neg h21] at K22 ⊢); exact K22
          · have nh3 := lv_neT (a := 0) h3 (by decide)
            have nh7 := lv_neT (a := 1) h7 (by decide)
            have nh15 := lv_neT (a := 2) h15 (by decide)
            have nh19 := lv_neT (a := 3) h19 (by decide)
            refine J_tableOut (tgt := 140) (dk okX2_isSo 7 rfl) (by omega) (by decide) ?_
            refine J_aload_n (dk okX2_isSo 66 rfl) 0 rfl rfl ?_
            refine J_iload_n (dk okX2_isSo 67 rfl) 1 rfl rfl ?_
            refine J_callVi (As := [.int p1]) (dk okX2_isSo 68 rfl) hp0.1 rfl vkX1_isOff lkX2_43 rfl rfl (Nat.le_of_ble_eq_true rfl) (by decide) (con_X1_isOff hp0 ⟨_, rfl, ?_⟩)
            refine J_iload_n (dk okX2_isSo 69 rfl) 3 rfl rfl ?_
            refine J_iconst (v := 1) (dk okX2_isSo 70 rfl) (by decide) ?_
            have K28 : J E G 3 mX2_isSo Q 155 [] [.int (if p3 = 1 then 1 else 0 : Int32), .int (v_X1_isOff p0 p1 μ)] μ := by
              have K30 : J E G 3 mX2_isSo Q 163 [] [.int (if (v_X1_isOff p0 p1 μ) = (if p3 = 1 then 1 else 0 : Int32) then 1 else 0 : Int32)] μ := by
                (try simp only [if_neg h1, if_neg h3, if_neg h7, if_neg h15, if_neg h19] at k ⊢)
                exact J_zret (dk okX2_isSo 79 rfl) rfl (by (repeat' split) <;> first | rfl | (simp only [*]; rfl)) k
              refine J_icmp_ne (tgt := 162) (dk okX2_isSo 75 rfl) (by decide) (fun h29 => ?_) (fun h29 => ?_)
              · refine J_iconst (v := 0) (dk okX2_isSo 78 rfl) (by decide) ?_
                refine J_sub (ls' := []) [] rfl ?_
                (try simp only [if_neg h29] at K30 ⊢); exact K30
              · refine J_iconst (v := 1) (dk okX2_isSo 76 rfl) (by decide) ?_
                refine J_goto (tgt := 163) (dk okX2_isSo 77 rfl) (by decide) ?_
                refine J_sub (ls' := []) [] rfl ?_
                (try simp only [if_pos h29] at K30 ⊢); exact K30
            refine J_icmp_ne (tgt := 154) (dk okX2_isSo 71 rfl) (by decide) (fun h27 => ?_) (fun h27 => ?_)
            · refine J_iconst (v := 0) (dk okX2_isSo 74 rfl) (by decide) ?_
              refine J_sub (ls' := []) [] rfl ?_
              (try simp only [if_neg h27] at K28 ⊢); exact K28
            · refine J_iconst (v := 1) (dk okX2_isSo 72 rfl) (by decide) ?_
              refine J_goto (tgt := 155) (dk okX2_isSo 73 rfl) (by decide) ?_
              refine J_sub (ls' := []) [] rfl ?_
              (try simp only [if_pos h27] at K28 ⊢); exact K28
  · refine J_iconst (v := 0) (dk okX2_isSo 4 rfl) (by decide) ?_
    (try simp only [if_pos h1] at k ⊢)
    exact J_zret (dk okX2_isSo 5 rfl) rfl rfl k
theorem nb_X2_isSo (p0 : Nat) (p1 : Int32) (p2 : Int32) (p3 : Int32) (μ : Mm) : narrow .boolean (.int (v_X2_isSo p0 p1 p2 p3 μ)) = .int (v_X2_isSo p0 p1 p2 p3 μ) := by
  unfold v_X2_isSo; (repeat' split) <;> rfl
/-- VotingFloor$Text.signed(IC)I -/
def v_X9_signed (p0 : Int32) (p1 : Int32) (μ : Mm) : Int32 := (if (v_X9_at p0 μ) = p1 then (-(v_X9_digit (p0 + 1) μ)) else (v_X9_digit (p0 + 1) μ) : Int32)
def p_X9_signed (p0 : Int32) (p1 : Int32)  (μ : Mm) : Prop := (p_X9_at p0 μ) ∧ (((v_X9_at p0 μ) = p1 → p_X9_digit (p0 + 1) μ) ∧ (¬ ((v_X9_at p0 μ) = p1) → p_X9_digit (p0 + 1) μ))
set_option maxRecDepth 20000 in
set_option maxHeartbeats 4000000 in
theorem con_X9_signed {E : Ex} {Q : Option Value → Mm → Prop} {p0 : Int32} {p1 : Int32} {μ : Mm} (t : p_X9_signed p0 p1  μ) (k : Q (some (.int (v_X9_signed p0 p1 μ))) μ) : Con E 3 mX9_signed [rf E 25, .int p0, .int p1] μ Q := by
  refine Con_J (by decide +kernel) (Nat.le_of_ble_eq_true rfl) (fun G => ?_)
  unfold v_X9_signed at k
  unfold p_X9_signed at t
  refine J_sub (ls' := [(0, rf E 25), (1, .int p0), (2, .int p1)]) [0, 1, 2] rfl ?_
  refine J_aload_n (dk okX9_signed 0 rfl) 0 rfl rfl ?_
  refine J_iload_n (dk okX9_signed 1 rfl) 1 rfl rfl ?_
  obtain ⟨s1, t⟩ := t
  refine J_callVi (As := [.int p0]) (dk okX9_signed 2 rfl) ds_25 rfl vkX9_at lkX9_19 rfl rfl (Nat.le_of_ble_eq_true rfl) (by decide) (con_X9_at s1 ⟨_, rfl, ?_⟩)
  refine J_iload_n (dk okX9_signed 3 rfl) 2 rfl rfl ?_
  have K5 : J E G 3 mX9_signed Q 27 [] [.int (if (v_X9_at p0 μ) = p1 then (-(v_X9_digit (p0 + 1) μ)) else (v_X9_digit (p0 + 1) μ) : Int32)] μ := by
    exact J_iret (dk okX9_signed 17 rfl) rfl k
  refine J_icmp_ne (tgt := 20) (dk okX9_signed 4 rfl) (by decide) (fun h2 => ?_) (fun h2 => ?_)
  · have t := t.2 h2
    refine J_aload_n (dk okX9_signed 12 rfl) 0 rfl rfl ?_
    refine J_iload_n (dk okX9_signed 13 rfl) 1 rfl rfl ?_
    refine J_iconst (v := 1) (dk okX9_signed 14 rfl) (by decide) ?_
    refine J_iadd (dk okX9_signed 15 rfl) ?_
    have s4 := t
    refine J_callVi (As := [.int (p0 + 1)]) (dk okX9_signed 16 rfl) ds_25 rfl vkX9_digit lkX9_23 rfl rfl (Nat.le_of_ble_eq_true rfl) (by decide) (con_X9_digit s4 ⟨_, rfl, ?_⟩)
    refine J_sub (ls' := []) [] rfl ?_
    (try simp only [if_neg h2] at K5 ⊢); exact K5
  · have t := t.1 h2
    refine J_aload_n (dk okX9_signed 5 rfl) 0 rfl rfl ?_
    refine J_iload_n (dk okX9_signed 6 rfl) 1 rfl rfl ?_
    refine J_iconst (v := 1) (dk okX9_signed 7 rfl) (by decide) ?_
    refine J_iadd (dk okX9_signed 8 rfl) ?_
    have s3 := t
    refine J_callVi (As := [.int (p0 + 1)]) (dk okX9_signed 9 rfl) ds_25 rfl vkX9_digit lkX9_23 rfl rfl (Nat.le_of_ble_eq_true rfl) (by decide) (con_X9_digit s3 ⟨_, rfl, ?_⟩)
    refine J_ineg (dk okX9_signed 10 rfl) ?_
    refine J_goto (tgt := 27) (dk okX9_signed 11 rfl) (by decide) ?_
    refine J_sub (ls' := []) [] rfl ?_
    (try simp only [if_pos h2] at K5 ⊢); exact K5
/-- java/lang/String.charAt(I)C -/
def v_J0_charAt_5068e (b : Nat) (p0 : Int32) : Int32 := (v_J1_charAt_3b067 b p0)
def p_J0_charAt_5068e (b : Nat) (p0 : Int32)  : Prop := (((v_J0_isLatin1_aae02 b) = 0 → False) ∧ (¬ ((v_J0_isLatin1_aae02 b) = 0) → (p_J1_charAt_3b067 b p0) ∧ narrow .char (.int (v_J1_charAt_3b067 b p0)) = .int (v_J1_charAt_3b067 b p0)))
set_option maxRecDepth 20000 in
set_option maxHeartbeats 4000000 in
theorem con_J0_charAt_5068e {E : Ex} {Q : Option Value → Mm → Prop} {b : Nat} {p0 : Int32} {μ : Mm} (hb : b < strN) (t : p_J0_charAt_5068e b p0 ) (k : Q (some (.int (v_J0_charAt_5068e b p0))) μ) : Con E 4 mJ0_charAt_5068e [sf E b, .int p0] μ Q := by
  refine Con_J (by decide +kernel) (Nat.le_of_ble_eq_true rfl) (fun G => ?_)
  unfold v_J0_charAt_5068e at k
  unfold p_J0_charAt_5068e at t
  refine J_sub (ls' := [(0, sf E b), (1, .int p0)]) [0, 1] rfl ?_
  refine J_aload_nS (dk okJ0_charAt_5068e 0 rfl) 0 rfl rfl ?_
  refine J_callVSi (As := []) (dk okJ0_charAt_5068e 1 rfl) hb vkJ0_isLatin1_aae02 lkJ0_492 rfl rfl (Nat.le_of_ble_eq_true rfl) (by decide) (con_J0_isLatin1_aae02 hb ⟨_, rfl, ?_⟩)
  refine J_if_eq (tgt := 16) (dk okJ0_charAt_5068e 2 rfl) (by decide) (fun h1 => ?_) (fun h1 => ?_)
  · have t := t.1 h1
    refine J_aload_nS (dk okJ0_charAt_5068e 8 rfl) 0 rfl rfl ?_
    refine J_getV (dk okJ0_charAt_5068e 9 rfl) kfJ0_9 hb ?_
    refine J_iload_n (dk okJ0_charAt_5068e 10 rfl) 1 rfl rfl ?_
    exact t.elim
  · have t := t.2 h1
    refine J_aload_nS (dk okJ0_charAt_5068e 3 rfl) 0 rfl rfl ?_
    refine J_getV (dk okJ0_charAt_5068e 4 rfl) kfJ0_9 hb ?_
    refine J_iload_n (dk okJ0_charAt_5068e 5 rfl) 1 rfl rfl ?_
    obtain ⟨s2, t⟩ := t
    refine J_callSi (As := [bf E b, .int p0]) (dk okJ0_charAt_5068e 6 rfl) skJ1_charAt_3b067 lkJ0_495 rfl rfl (Nat.le_of_ble_eq_true rfl) (by decide) (con_J1_charAt_3b067 hb s2 ⟨_, rfl, ?_⟩)
    have s3 := t
    (try simp only [if_neg h1] at k ⊢)
    exact J_zret (dk okJ0_charAt_5068e 7 rfl) rfl s3 k

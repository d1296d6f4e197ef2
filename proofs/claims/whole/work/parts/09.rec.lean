/-- VotingFloorModel.common(JJ)J -/
noncomputable def vr_X12_common (F : Int64 → Int64 → Int64) (PF : Int64 → Int64 → Prop) (p0 : Int64) (p1 : Int64) : Int64 := (if (lg_cmp p1 0) = 0 then p0 else (F p1 (p0 - p0 / p1 * p1)) : Int64)
def pr_X12_common (F : Int64 → Int64 → Int64) (PF : Int64 → Int64 → Prop) (p0 : Int64) (p1 : Int64)  : Prop := (¬ ((lg_cmp p1 0) = 0) → (¬ p1 = 0) ∧ PF p1 (p0 - p0 / p1 * p1))
set_option maxRecDepth 20000 in
set_option maxHeartbeats 4000000 in
theorem cr_X12_common {E : Ex} {n : Nat} {F : Int64 → Int64 → Int64} {PF : Int64 → Int64 → Prop} (ih : ∀ (a b : Int64) (μ : Mm) (Q : Option Value → Mm → Prop), PF a b → Q (some (.long (F a b))) μ → Con E n mX12_common [.long a, .long b] μ Q) {Q : Option Value → Mm → Prop} {p0 : Int64} {p1 : Int64} {μ : Mm} (t : pr_X12_common F PF p0 p1 ) (k : Q (some (.long (vr_X12_common F PF p0 p1))) μ) : Con E (n + 1) mX12_common [.long p0, .long p1] μ Q := by
  refine Con_J (by decide +kernel) (Nat.le_of_ble_eq_true rfl) (fun G => ?_)
  unfold vr_X12_common at k
  unfold pr_X12_common at t
  refine J_sub (ls' := [(0, .long p0), (2, .long p1)]) [0, 1] rfl ?_
  refine J_lload_n (dk okX12_common 0 rfl) 1 rfl rfl ?_
  refine J_lconst (v := 0) (dk okX12_common 1 rfl) (by decide) ?_
  refine J_lcmp (dk okX12_common 2 rfl) ?_
  have K4 : J E G (n + 1) mX12_common Q 17 [] [.long (if (lg_cmp p1 0) = 0 then p0 else (F p1 (p0 - p0 / p1 * p1)) : Int64)] μ := by
    exact J_lret (dk okX12_common 11 rfl) rfl k
  refine J_if_ne (tgt := 10) (dk okX12_common 3 rfl) (by decide) (fun h1 => ?_) (fun h1 => ?_)
  · have t := t h1
    refine J_lload_n (dk okX12_common 6 rfl) 1 rfl rfl ?_
    refine J_lload_n (dk okX12_common 7 rfl) 0 rfl rfl ?_
    refine J_lload_n (dk okX12_common 8 rfl) 1 rfl rfl ?_
    obtain ⟨s2, t⟩ := t
    refine J_lrem (dk okX12_common 9 rfl) s2 ?_
    have s3 := t
    refine J_callSl (As := [.long p1, .long (p0 - p0 / p1 * p1)]) (dk okX12_common 10 rfl) skX12_common lkX12_7 rfl rfl (Nat.le_of_ble_eq_true rfl) (Nat.le_refl _) (ih _ _ _ _ s3 ⟨_, rfl, ?_⟩)
    refine J_sub (ls' := []) [] rfl ?_
    (try simp only [if_neg h1] at K4 ⊢); exact K4
  · refine J_lload_n (dk okX12_common 4 rfl) 0 rfl rfl ?_
    refine J_goto (tgt := 17) (dk okX12_common 5 rfl) (by decide) ?_
    refine J_sub (ls' := []) [] rfl ?_
    (try simp only [if_pos h1] at K4 ⊢); exact K4
def F_common : Nat → Int64 → Int64 → Int64
  | 0, _, _ => 0
  | n + 1, a, b => if (lg_cmp b 0) = 0 then a else F_common n b (a - a / b * b)
def P_common : Nat → Int64 → Int64 → Prop
  | 0, _, _ => False
  | n + 1, a, b => ¬ ((lg_cmp b 0) = 0) → (¬ b = 0) ∧ P_common n b (a - a / b * b)
theorem ci_X12_common {E : Ex} : ∀ (n : Nat) (a b : Int64) (μ : Mm) (Q : Option Value → Mm → Prop), P_common n a b → Q (some (.long (F_common n a b))) μ → Con E n mX12_common [.long a, .long b] μ Q := by
  intro n
  induction n with
  | zero => intro a b μ Q h; exact absurd h (by simp [P_common])
  | succ n ih =>
    intro a b μ Q h k
    exact cr_X12_common (F := F_common n) (PF := P_common n) ih h k
def v_X12_common (p0 : Int64) (p1 : Int64) : Int64 := F_common 100 p0 p1
def p_X12_common (p0 : Int64) (p1 : Int64) : Prop := P_common 100 p0 p1
theorem con_X12_common {E : Ex} {Q : Option Value → Mm → Prop} {p0 : Int64} {p1 : Int64} {μ : Mm} (t : p_X12_common p0 p1) (k : Q (some (.long (v_X12_common p0 p1))) μ) : Con E 100 mX12_common [.long p0, .long p1] μ Q := ci_X12_common 100 p0 p1 μ Q t k
/-- VotingFloorModel.readsThing()Z -/
noncomputable def vr_X12_readsThing (F : Option Int32 → Mm → Int32 × Mm) (PF : Option Int32 → Mm → Prop)  (μ : Mm) : Int32 := (let μ2 : Mm := (e_X12_takes 45 μ); (if (v_X12_takes 45 μ) = 0 then (if (v_X12_isDigit  μ2) = 0 then (let μ7 : Mm := (e_X12_takesOf 0 μ2); (if (v_X12_takesOf 0 μ2) < 0 then (if (μ7.1 49 12) = 4 then 0 else (let μ11 : Mm := (e_X12_takes 40 μ7); (if (v_X12_takes 40 μ7) = 0 then 0 else (let μ13 : Mm := (upI μ11 49 12 ((μ11.1 49 12) + 1)); (let μ15 : Mm := ((F (some 0) μ13).2); (if ((F (some 0) μ13).1) = 0 then 0 else (if (v_X12_takes 41 μ15) = 0 then 0 else 1))))))) else 1)) else 1) else ((F none μ2).1)))
noncomputable def er_X12_readsThing (F : Option Int32 → Mm → Int32 × Mm) (PF : Option Int32 → Mm → Prop)  (μ : Mm) : Mm := (let μ2 : Mm := (e_X12_takes 45 μ); (if (v_X12_takes 45 μ) = 0 then (if (v_X12_isDigit  μ2) = 0 then (let μ7 : Mm := (e_X12_takesOf 0 μ2); (if (v_X12_takesOf 0 μ2) < 0 then (if (μ7.1 49 12) = 4 then μ7 else (let μ11 : Mm := (e_X12_takes 40 μ7); (if (v_X12_takes 40 μ7) = 0 then μ11 else (let μ13 : Mm := (upI μ11 49 12 ((μ11.1 49 12) + 1)); (let μ15 : Mm := ((F (some 0) μ13).2); (if ((F (some 0) μ13).1) = 0 then μ15 else (let μ18 : Mm := (e_X12_takes 41 μ15); (if (v_X12_takes 41 μ15) = 0 then μ18 else (let μ20 : Mm := (upI μ18 49 12 ((μ18.1 49 12) - 1)); μ20))))))))) else (let μ22 : Mm := (e_X12_codes (1000 + (v_X12_takesOf 0 μ2)) μ7); μ22))) else (let μ24 : Mm := (e_X12_number 3 μ2); (let μ26 : Mm := (e_X12_codes (v_X12_number 3 μ2) μ24); μ26))) else (let μ28 : Mm := ((F none μ2).2); (let μ30 : Mm := (e_X12_codes 3000 μ28); μ30))))
def pr_X12_readsThing (F : Option Int32 → Mm → Int32 × Mm) (PF : Option Int32 → Mm → Prop)   (μ : Mm) : Prop := (p_X12_takes 45 μ) ∧ (∀ μ2 : Mm, μ2 = (e_X12_takes 45 μ) → (((v_X12_takes 45 μ) = 0 → (p_X12_isDigit μ2) ∧ (((v_X12_isDigit  μ2) = 0 → (p_X12_takesOf 0 μ2) ∧ (∀ μ7 : Mm, μ7 = (e_X12_takesOf 0 μ2) → (((v_X12_takesOf 0 μ2) < 0 → (¬ ((μ7.1 49 12) = 4) → (p_X12_takes 40 μ7) ∧ (∀ μ11 : Mm, μ11 = (e_X12_takes 40 μ7) → (¬ ((v_X12_takes 40 μ7) = 0) → (∀ μ13 : Mm, μ13 = (upI μ11 49 12 ((μ11.1 49 12) + 1)) → (PF (some 0) μ13) ∧ (∀ μ15 : Mm, μ15 = ((F (some 0) μ13).2) → (¬ (((F (some 0) μ13).1) = 0) → p_X12_takes 41 μ15))))))) ∧ (¬ ((v_X12_takesOf 0 μ2) < 0) → p_X12_codes (1000 + (v_X12_takesOf 0 μ2)) μ7)))) ∧ (¬ ((v_X12_isDigit  μ2) = 0) → (p_X12_number 3 μ2) ∧ (∀ μ24 : Mm, μ24 = (e_X12_number 3 μ2) → p_X12_codes (v_X12_number 3 μ2) μ24)))) ∧ (¬ ((v_X12_takes 45 μ) = 0) → (PF none μ2) ∧ (∀ μ28 : Mm, μ28 = ((F none μ2).2) → (p_X12_codes 3000 μ28) ∧ (∀ μ30 : Mm, μ30 = (e_X12_codes 3000 μ28) → narrow .boolean (.int ((F none μ2).1)) = .int ((F none μ2).1))))))
set_option maxRecDepth 20000 in
set_option maxHeartbeats 4000000 in
theorem cr_X12_readsThing {E : Ex} {n : Nat} {F : Option Int32 → Mm → Int32 × Mm} {PF : Option Int32 → Mm → Prop} (ihT : ∀ (μ : Mm) (Q : Option Value → Mm → Prop), PF none μ → Q (some (.int (F none μ).1)) (F none μ).2 → Con E (n + 20) mX12_readsThing [rf E 49] μ Q) (ihR : ∀ (r : Int32) (μ : Mm) (Q : Option Value → Mm → Prop), PF (some r) μ → Q (some (.int (F (some r) μ).1)) (F (some r) μ).2 → Con E (n + 20) mX12_readsRank [rf E 49, .int r] μ Q) {Q : Option Value → Mm → Prop} {μ : Mm} (t : pr_X12_readsThing F PF   μ) (k : Q (some (.int (vr_X12_readsThing F PF  μ))) (er_X12_readsThing F PF  μ)) : Con E (n + 21) mX12_readsThing [rf E 49] μ Q := by
  refine Con_J (by decide +kernel) (Nat.le_of_ble_eq_true rfl) (fun G => ?_)
  unfold vr_X12_readsThing er_X12_readsThing at k
  unfold pr_X12_readsThing at t
  refine J_sub (ls' := [(0, rf E 49)]) [0] rfl ?_
  refine J_aload_n (dk okX12_readsThing 0 rfl) 0 rfl rfl ?_
  refine J_bipush (v := 45) (dk okX12_readsThing 1 rfl) (by decide) ?_
  obtain ⟨s1, t⟩ := t
  refine J_callVi (As := [.int 45]) (dk okX12_readsThing 2 rfl) ds_49 rfl vkX12_takes lkX12_205 rfl rfl (Nat.le_of_ble_eq_true rfl) (by omega) (con_X12_takes s1 ⟨_, rfl, ?_⟩)
  refine J_nm (fun μ2 eμ2 => ?_)
  have t := t μ2 eμ2
  refine J_if_eq (tgt := 23) (dk okX12_readsThing 3 rfl) (by decide) (fun h3 => ?_) (fun h3 => ?_)
  · have t := t.1 h3
    refine J_aload_n (dk okX12_readsThing 12 rfl) 0 rfl rfl ?_
    obtain ⟨s4, t⟩ := t
    refine J_callVi (As := []) (dk okX12_readsThing 13 rfl) ds_49 rfl vkX12_isDigit lkX12_172 rfl rfl (Nat.le_of_ble_eq_true rfl) (by omega) (con_X12_isDigit s4 ⟨_, rfl, ?_⟩)
    refine J_if_eq (tgt := 41) (dk okX12_readsThing 14 rfl) (by decide) (fun h5 => ?_) (fun h5 => ?_)
    · have t := t.1 h5
      refine J_aload_n (dk okX12_readsThing 22 rfl) 0 rfl rfl ?_
      refine J_ldcS (i := 0) (tx := "cpwmqin") (dk okX12_readsThing 23 rfl) (by decide +kernel) ?_
      obtain ⟨s6, t⟩ := t
      refine J_callVi (As := [sf E 0]) (dk okX12_readsThing 24 rfl) ds_49 rfl vkX12_takesOf lkX12_176 rfl rfl (Nat.le_of_ble_eq_true rfl) (by omega) (con_X12_takesOf (by decide) s6 ⟨_, rfl, ?_⟩)
      refine J_nm (fun μ7 eμ7 => ?_)
      have t := t μ7 eμ7
      refine J_istore_n (ls' := [(1, _), (0, _)]) (dk okX12_readsThing 25 rfl) rfl (by decide) rfl ?_
      refine J_iload_n (dk okX12_readsThing 26 rfl) 0 rfl rfl ?_
      refine J_if_lt (tgt := 63) (dk okX12_readsThing 27 rfl) (by decide) (fun h8 => ?_) (fun h8 => ?_)
      · have t := t.1 h8
        refine J_aload_n (dk okX12_readsThing 35 rfl) 1 rfl rfl ?_
        refine J_getI (dk okX12_readsThing 36 rfl) kfX12_147 ds_49 rfl ?_
        refine J_iconst (v := 4) (dk okX12_readsThing 37 rfl) (by decide) ?_
        refine J_icmp_eq (tgt := 80) (dk okX12_readsThing 38 rfl) (by decide) (fun h9 => ?_) (fun h9 => ?_)
        · refine J_iconst (v := 0) (dk okX12_readsThing 43 rfl) (by decide) ?_
          subst eμ7 eμ2
          (try simp only [if_pos h3, if_pos h5, if_pos h8, if_pos h9] at k ⊢)
          exact J_zret (dk okX12_readsThing 44 rfl) rfl rfl k
        · have t := t h9
          refine J_aload_n (dk okX12_readsThing 39 rfl) 1 rfl rfl ?_
          refine J_bipush (v := 40) (dk okX12_readsThing 40 rfl) (by decide) ?_
          obtain ⟨s10, t⟩ := t
          refine J_callVi (As := [.int 40]) (dk okX12_readsThing 41 rfl) ds_49 rfl vkX12_takes lkX12_205 rfl rfl (Nat.le_of_ble_eq_true rfl) (by omega) (con_X12_takes s10 ⟨_, rfl, ?_⟩)
          refine J_nm (fun μ11 eμ11 => ?_)
          have t := t μ11 eμ11
          refine J_if_ne (tgt := 82) (dk okX12_readsThing 42 rfl) (by decide) (fun h12 => ?_) (fun h12 => ?_)
          · have t := t h12
            refine J_aload_n (dk okX12_readsThing 45 rfl) 1 rfl rfl ?_
            refine J_dup (dk okX12_readsThing 46 rfl) rfl ?_
            refine J_getI (dk okX12_readsThing 47 rfl) kfX12_147 ds_49 rfl ?_
            refine J_iconst (v := 1) (dk okX12_readsThing 48 rfl) (by decide) ?_
            refine J_iadd (dk okX12_readsThing 49 rfl) ?_
            refine J_put (dk okX12_readsThing 50 rfl) kpX12_147 ds_49 rfl rfl rfl ?_
            refine J_nm (fun μ13 eμ13 => ?_)
            have t := t μ13 eμ13
            refine J_aload_n (dk okX12_readsThing 51 rfl) 1 rfl rfl ?_
            refine J_iconst (v := 0) (dk okX12_readsThing 52 rfl) (by decide) ?_
            obtain ⟨s14, t⟩ := t
            refine J_callVi (As := [.int 0]) (dk okX12_readsThing 53 rfl) ds_49 rfl vkX12_readsRank lkX12_231 rfl rfl (Nat.le_of_ble_eq_true rfl) (by omega) (ihR _ _ _ s14 ⟨_, rfl, ?_⟩)
            refine J_nm (fun μ15 eμ15 => ?_)
            have t := t μ15 eμ15
            refine J_if_eq (tgt := 109) (dk okX12_readsThing 54 rfl) (by decide) (fun h16 => ?_) (fun h16 => ?_)
            · refine J_iconst (v := 0) (dk okX12_readsThing 59 rfl) (by decide) ?_
              subst eμ15 eμ13 eμ11 eμ7 eμ2
              (try simp only [if_pos h3, if_pos h5, if_pos h8, if_neg h9, if_neg h12, if_pos h16] at k ⊢)
              exact J_zret (dk okX12_readsThing 60 rfl) rfl rfl k
            · have t := t h16
              refine J_aload_n (dk okX12_readsThing 55 rfl) 1 rfl rfl ?_
              refine J_bipush (v := 41) (dk okX12_readsThing 56 rfl) (by decide) ?_
              have s17 := t
              refine J_callVi (As := [.int 41]) (dk okX12_readsThing 57 rfl) ds_49 rfl vkX12_takes lkX12_205 rfl rfl (Nat.le_of_ble_eq_true rfl) (by omega) (con_X12_takes s17 ⟨_, rfl, ?_⟩)
              refine J_nm (fun μ18 eμ18 => ?_)
              refine J_if_ne (tgt := 111) (dk okX12_readsThing 58 rfl) (by decide) (fun h19 => ?_) (fun h19 => ?_)
              · refine J_aload_n (dk okX12_readsThing 61 rfl) 1 rfl rfl ?_
                refine J_dup (dk okX12_readsThing 62 rfl) rfl ?_
                refine J_getI (dk okX12_readsThing 63 rfl) kfX12_147 ds_49 rfl ?_
                refine J_iconst (v := 1) (dk okX12_readsThing 64 rfl) (by decide) ?_
                refine J_isub (dk okX12_readsThing 65 rfl) ?_
                refine J_put (dk okX12_readsThing 66 rfl) kpX12_147 ds_49 rfl rfl rfl ?_
                refine J_nm (fun μ20 eμ20 => ?_)
                refine J_iconst (v := 1) (dk okX12_readsThing 67 rfl) (by decide) ?_
                subst eμ20 eμ18 eμ15 eμ13 eμ11 eμ7 eμ2
                (try simp only [if_pos h3, if_pos h5, if_pos h8, if_neg h9, if_neg h12, if_neg h16, if_neg h19] at k ⊢)
                exact J_zret (dk okX12_readsThing 68 rfl) rfl rfl k
              · refine J_iconst (v := 0) (dk okX12_readsThing 59 rfl) (by decide) ?_
                subst eμ18 eμ15 eμ13 eμ11 eμ7 eμ2
                (try simp only [if_pos h3, if_pos h5, if_pos h8, if_neg h9, if_neg h12, if_neg h16, if_pos h19] at k ⊢)
                exact J_zret (dk okX12_readsThing 60 rfl) rfl rfl k
          · refine J_iconst (v := 0) (dk okX12_readsThing 43 rfl) (by decide) ?_
            subst eμ11 eμ7 eμ2
            (try simp only [if_pos h3, if_pos h5, if_pos h8, if_neg h9, if_pos h12] at k ⊢)
            exact J_zret (dk okX12_readsThing 44 rfl) rfl rfl k
      · have t := t.2 h8
        refine J_aload_n (dk okX12_readsThing 28 rfl) 1 rfl rfl ?_
        refine J_sipush (v := 1000) (dk okX12_readsThing 29 rfl) (by decide) ?_
        refine J_iload_n (dk okX12_readsThing 30 rfl) 0 rfl rfl ?_
        refine J_iadd (dk okX12_readsThing 31 rfl) ?_
        have s21 := t
        refine J_callVv (As := [.int (1000 + (v_X12_takesOf 0 μ2))]) (dk okX12_readsThing 32 rfl) ds_49 rfl vkX12_codes lkX12_225 rfl rfl (Nat.le_of_ble_eq_true rfl) (by omega) (con_X12_codes s21 ⟨rfl, ?_⟩)
        refine J_nm (fun μ22 eμ22 => ?_)
        refine J_iconst (v := 1) (dk okX12_readsThing 33 rfl) (by decide) ?_
        subst eμ22 eμ7 eμ2
        (try simp only [if_pos h3, if_pos h5, if_neg h8] at k ⊢)
        exact J_zret (dk okX12_readsThing 34 rfl) rfl rfl k
    · have t := t.2 h5
      refine J_aload_n (dk okX12_readsThing 15 rfl) 0 rfl rfl ?_
      refine J_aload_n (dk okX12_readsThing 16 rfl) 0 rfl rfl ?_
      refine J_iconst (v := 3) (dk okX12_readsThing 17 rfl) (by decide) ?_
      obtain ⟨s23, t⟩ := t
      refine J_callVi (As := [.int 3]) (dk okX12_readsThing 18 rfl) ds_49 rfl vkX12_number lkX12_180 rfl rfl (Nat.le_of_ble_eq_true rfl) (by omega) (con_X12_number s23 ⟨_, rfl, ?_⟩)
      refine J_nm (fun μ24 eμ24 => ?_)
      have t := t μ24 eμ24
      have s25 := t
      refine J_callVv (As := [.int (v_X12_number 3 μ2)]) (dk okX12_readsThing 19 rfl) ds_49 rfl vkX12_codes lkX12_225 rfl rfl (Nat.le_of_ble_eq_true rfl) (by omega) (con_X12_codes s25 ⟨rfl, ?_⟩)
      refine J_nm (fun μ26 eμ26 => ?_)
      refine J_iconst (v := 1) (dk okX12_readsThing 20 rfl) (by decide) ?_
      subst eμ26 eμ24 eμ2
      (try simp only [if_pos h3, if_neg h5] at k ⊢)
      exact J_zret (dk okX12_readsThing 21 rfl) rfl rfl k
  · have t := t.2 h3
    refine J_aload_n (dk okX12_readsThing 4 rfl) 0 rfl rfl ?_
    obtain ⟨s27, t⟩ := t
    refine J_callVi (As := []) (dk okX12_readsThing 5 rfl) ds_49 rfl vkX12_readsThing lkX12_222 rfl rfl (Nat.le_of_ble_eq_true rfl) (by omega) (ihT _ _ s27 ⟨_, rfl, ?_⟩)
    refine J_nm (fun μ28 eμ28 => ?_)
    have t := t μ28 eμ28
    refine J_istore_n (ls' := [(1, _), (0, _)]) (dk okX12_readsThing 6 rfl) rfl (by decide) rfl ?_
    refine J_aload_n (dk okX12_readsThing 7 rfl) 1 rfl rfl ?_
    refine J_sipush (v := 3000) (dk okX12_readsThing 8 rfl) (by decide) ?_
    obtain ⟨s29, t⟩ := t
    refine J_callVv (As := [.int 3000]) (dk okX12_readsThing 9 rfl) ds_49 rfl vkX12_codes lkX12_225 rfl rfl (Nat.le_of_ble_eq_true rfl) (by omega) (con_X12_codes s29 ⟨rfl, ?_⟩)
    refine J_nm (fun μ30 eμ30 => ?_)
    have t := t μ30 eμ30
    refine J_iload_n (dk okX12_readsThing 10 rfl) 0 rfl rfl ?_
    have s31 := t
    subst eμ30 eμ28 eμ2
    (try simp only [if_neg h3] at k ⊢)
    exact J_zret (dk okX12_readsThing 11 rfl) rfl s31 k
noncomputable def bd_X12_readsRank_24 (F : Option Int32 → Mm → Int32 × Mm) (PF : Option Int32 → Mm → Prop)  (x1 : Int32) (x2 : Int32) (μ : Mm) : (Int32 × Int32 × Mm) ⊕ (Int32 × Mm) := (if x2 = 0 then .inr (1, μ) else (let μ6 : Mm := (e_X12_takesOf (if x1 = 0 then 3 else (if x1 = 1 then 4 else 5 : Nat) : Nat) μ); (if 0 ≤ (v_X12_takesOf (if x1 = 0 then 3 else (if x1 = 1 then 4 else 5 : Nat) : Nat) μ) then (let μ9 : Mm := ((F (some (x1 + 1)) μ6).2); (if ((F (some (x1 + 1)) μ6).1) = 0 then .inr (0, μ9) else (let μ15 : Mm := (e_X12_codes ((2000 + (v_X12_takesOf (if x1 = 0 then 3 else (if x1 = 1 then 4 else 5 : Nat) : Nat) μ)) + (if x1 = 0 then 0 else (if x1 = 1 then 3 else 5 : Int32) : Int32)) μ9); .inl (x1, (if x1 ≤ 0 then 0 else 1 : Int32), μ15)))) else .inr (1, μ6))))
def sd_X12_readsRank_24 (F : Option Int32 → Mm → Int32 × Mm) (PF : Option Int32 → Mm → Prop)   (x1 : Int32) (x2 : Int32) (μ : Mm) : Prop := (¬ (x2 = 0) → (p_X12_takesOf (if x1 = 0 then 3 else (if x1 = 1 then 4 else 5 : Nat) : Nat) μ) ∧ (∀ μ6 : Mm, μ6 = (e_X12_takesOf (if x1 = 0 then 3 else (if x1 = 1 then 4 else 5 : Nat) : Nat) μ) → (0 ≤ (v_X12_takesOf (if x1 = 0 then 3 else (if x1 = 1 then 4 else 5 : Nat) : Nat) μ) → (PF (some (x1 + 1)) μ6) ∧ (∀ μ9 : Mm, μ9 = ((F (some (x1 + 1)) μ6).2) → (¬ (((F (some (x1 + 1)) μ6).1) = 0) → p_X12_codes ((2000 + (v_X12_takesOf (if x1 = 0 then 3 else (if x1 = 1 then 4 else 5 : Nat) : Nat) μ)) + (if x1 = 0 then 0 else (if x1 = 1 then 3 else 5 : Int32) : Int32)) μ9)))))
set_option maxRecDepth 20000 in
set_option maxHeartbeats 4000000 in
theorem lw_X12_readsRank_24 {E : Ex} {n : Nat} {F : Option Int32 → Mm → Int32 × Mm} {PF : Option Int32 → Mm → Prop} (ihT : ∀ (μ : Mm) (Q : Option Value → Mm → Prop), PF none μ → Q (some (.int (F none μ).1)) (F none μ).2 → Con E (n + 20) mX12_readsThing [rf E 49] μ Q) (ihR : ∀ (r : Int32) (μ : Mm) (Q : Option Value → Mm → Prop), PF (some r) μ → Q (some (.int (F (some r) μ).1)) (F (some r) μ).2 → Con E (n + 20) mX12_readsRank [rf E 49, .int r] μ Q) {G : Gx} {Q : Option Value → Mm → Prop} {x1 : Int32} {x2 : Int32} {μ : Mm}  (p : whP (fun s : Int32 × Int32 × Mm => bd_X12_readsRank_24 F PF  s.1 s.2.1 s.2.2) (fun s : Int32 × Int32 × Mm => sd_X12_readsRank_24 F PF   s.1 s.2.1 s.2.2) FU (x1, x2, μ)) (k : Q (some (.int (whl (fun s : Int32 × Int32 × Mm => bd_X12_readsRank_24 F PF  s.1 s.2.1 s.2.2) (fun s : Int32 × Int32 × Mm => (0, s.2.2)) FU (x1, x2, μ)).1)) (whl (fun s : Int32 × Int32 × Mm => bd_X12_readsRank_24 F PF  s.1 s.2.1 s.2.2) (fun s : Int32 × Int32 × Mm => (0, s.2.2)) FU (x1, x2, μ)).2) : J E G (n + 21) mX12_readsRank Q 24 [(0, rf E 49), (1, .int x1), (2, .int x2)] [] μ := by
  refine J_whl (f := (fun s : Int32 × Int32 × Mm => bd_X12_readsRank_24 F PF  s.1 s.2.1 s.2.2)) (dd := (fun s : Int32 × Int32 × Mm => (0, s.2.2))) (sd := (fun s : Int32 × Int32 × Mm => sd_X12_readsRank_24 F PF   s.1 s.2.1 s.2.2)) (P := fun s : Int32 × Int32 × Mm => J E G (n + 21) mX12_readsRank Q 24 [(0, rf E 49), (1, .int (s.1)), (2, .int (s.2.1))] [] (s.2.2)) (R := fun r : Int32 × Mm => Q (some (.int (r).1)) (r).2) ?_ FU (x1, x2, μ) p k
  clear p k
  rintro ⟨x1, x2, μ⟩ t k1 k2
  dsimp only [sd_X12_readsRank_24] at t
  have kb : ∀ (y1 : Int32) (y2 : Int32) (μ9 : Mm), bd_X12_readsRank_24 F PF  x1 x2 μ = .inl (y1, y2, μ9) → J E G (n + 21) mX12_readsRank Q 24 [(0, rf E 49), (1, .int y1), (2, .int y2)] [] μ9 := fun y1 y2 μ9 h => k1 (y1, y2, μ9) h
  have kx : ∀ (y : Int32) (μ9 : Mm), bd_X12_readsRank_24 F PF  x1 x2 μ = .inr (y, μ9) → Q (some (.int y)) μ9 := fun y μ9 h => k2 (y, μ9) h
  clear k1 k2
  refine J_iload_n (dk okX12_readsRank 16 rfl) 2 rfl rfl ?_
  refine J_if_eq (tgt := 113) (dk okX12_readsRank 17 rfl) (by decide) (fun h1 => ?_) (fun h1 => ?_)
  · refine J_iconst (v := 1) (dk okX12_readsRank 66 rfl) (by decide) ?_
    exact J_zret (dk okX12_readsRank 67 rfl) rfl rfl (kx 1 μ (by unfold bd_X12_readsRank_24; first | (simp only [if_pos h1]; done) | (simp only [if_pos h1]; rfl) | rfl))
  · have t := t h1
    refine J_aload_n (dk okX12_readsRank 18 rfl) 0 rfl rfl ?_
    refine J_iload_n (dk okX12_readsRank 19 rfl) 1 rfl rfl ?_
    have K4 : J E G (n + 21) mX12_readsRank Q 50 [(0, rf E 49), (1, .int x1)] [sf E (if x1 = 0 then 3 else (if x1 = 1 then 4 else 5 : Nat) : Nat), rf E 49] μ := by
      obtain ⟨s5, t⟩ := t
      refine J_callVi (As := [sf E (if x1 = 0 then 3 else (if x1 = 1 then 4 else 5 : Nat) : Nat)]) (dk okX12_readsRank 29 rfl) ds_49 rfl vkX12_takesOf lkX12_176 rfl rfl (Nat.le_of_ble_eq_true rfl) (by omega) (con_X12_takesOf (by (repeat' split) <;> decide) s5 ⟨_, rfl, ?_⟩)
      refine J_nm (fun μ6 eμ6 => ?_)
      have t := t μ6 eμ6
      refine J_istore_n (ls' := [(3, _), (0, _), (1, _)]) (dk okX12_readsRank 30 rfl) rfl (by decide) rfl ?_
      refine J_iload_n (dk okX12_readsRank 31 rfl) 0 rfl rfl ?_
      refine J_if_ge (tgt := 60) (dk okX12_readsRank 32 rfl) (by decide) (fun h7 => ?_) (fun h7 => ?_)
      · have t := t h7
        refine J_aload_n (dk okX12_readsRank 35 rfl) 1 rfl rfl ?_
        refine J_iload_n (dk okX12_readsRank 36 rfl) 2 rfl rfl ?_
        refine J_iconst (v := 1) (dk okX12_readsRank 37 rfl) (by decide) ?_
        refine J_iadd (dk okX12_readsRank 38 rfl) ?_
        obtain ⟨s8, t⟩ := t
        refine J_callVi (As := [.int (x1 + 1)]) (dk okX12_readsRank 39 rfl) ds_49 rfl vkX12_readsRank lkX12_231 rfl rfl (Nat.le_of_ble_eq_true rfl) (by omega) (ihR _ _ _ s8 ⟨_, rfl, ?_⟩)
        refine J_nm (fun μ9 eμ9 => ?_)
        have t := t μ9 eμ9
        refine J_if_ne (tgt := 72) (dk okX12_readsRank 40 rfl) (by decide) (fun h10 => ?_) (fun h10 => ?_)
        · have t := t h10
          refine J_aload_n (dk okX12_readsRank 43 rfl) 1 rfl rfl ?_
          refine J_sipush (v := 2000) (dk okX12_readsRank 44 rfl) (by decide) ?_
          refine J_iload_n (dk okX12_readsRank 45 rfl) 0 rfl rfl ?_
          refine J_iadd (dk okX12_readsRank 46 rfl) ?_
          refine J_iload_n (dk okX12_readsRank 47 rfl) 2 rfl rfl ?_
          have K13 : J E G (n + 21) mX12_readsRank Q 96 [(0, rf E 49), (1, .int x1)] [.int (if x1 = 0 then 0 else (if x1 = 1 then 3 else 5 : Int32) : Int32), .int (2000 + (v_X12_takesOf (if x1 = 0 then 3 else (if x1 = 1 then 4 else 5 : Nat) : Nat) μ)), rf E 49] μ9 := by
            refine J_iadd (dk okX12_readsRank 57 rfl) ?_
            have s14 := t
            refine J_callVv (As := [.int ((2000 + (v_X12_takesOf (if x1 = 0 then 3 else (if x1 = 1 then 4 else 5 : Nat) : Nat) μ)) + (if x1 = 0 then 0 else (if x1 = 1 then 3 else 5 : Int32) : Int32))]) (dk okX12_readsRank 58 rfl) ds_49 rfl vkX12_codes lkX12_225 rfl rfl (Nat.le_of_ble_eq_true rfl) (by omega) (con_X12_codes s14 ⟨rfl, ?_⟩)
            refine J_nm (fun μ15 eμ15 => ?_)
            refine J_iload_n (dk okX12_readsRank 59 rfl) 1 rfl rfl ?_
            have K17 : J E G (n + 21) mX12_readsRank Q 109 [(0, rf E 49), (1, .int x1)] [.int (if x1 ≤ 0 then 0 else 1 : Int32)] μ15 := by
              refine J_istore_n (ls' := [(2, _), (0, _), (1, _)]) (dk okX12_readsRank 64 rfl) rfl (by decide) rfl ?_
              refine J_goto (tgt := 24) (dk okX12_readsRank 65 rfl) (by decide) ?_
              exact J_sub [1, 2, 0] rfl (kb x1 (if x1 ≤ 0 then 0 else 1 : Int32) μ15 (by subst eμ15 eμ9 eμ6; unfold bd_X12_readsRank_24; first | (simp only [if_neg h1, if_pos h7, if_neg h10]; done) | (simp only [if_neg h1, if_pos h7, if_neg h10]; rfl) | rfl))
            refine J_if_le (tgt := 108) (dk okX12_readsRank 60 rfl) (by decide) (fun h16 => ?_) (fun h16 => ?_)
            · refine J_iconst (v := 0) (dk okX12_readsRank 63 rfl) (by decide) ?_
              refine J_sub (ls' := [(0, _), (1, _)]) [0, 1] rfl ?_
              (try simp only [if_pos h16] at K17 ⊢); exact K17
            · refine J_iconst (v := 1) (dk okX12_readsRank 61 rfl) (by decide) ?_
              refine J_goto (tgt := 109) (dk okX12_readsRank 62 rfl) (by decide) ?_
              refine J_sub (ls' := [(0, _), (1, _)]) [0, 1] rfl ?_
              (try simp only [if_neg h16] at K17 ⊢); exact K17
          refine J_if_ne (tgt := 86) (dk okX12_readsRank 48 rfl) (by decide) (fun h11 => ?_) (fun h11 => ?_)
          · refine J_iload_n (dk okX12_readsRank 51 rfl) 2 rfl rfl ?_
            refine J_iconst (v := 1) (dk okX12_readsRank 52 rfl) (by decide) ?_
            refine J_icmp_ne (tgt := 95) (dk okX12_readsRank 53 rfl) (by decide) (fun h12 => ?_) (fun h12 => ?_)
            · refine J_iconst (v := 5) (dk okX12_readsRank 56 rfl) (by decide) ?_
              refine J_sub (ls' := [(0, _), (1, _)]) [1, 2] rfl ?_
              (try simp only [if_neg h11, if_neg h12] at K13 ⊢); exact K13
            · refine J_iconst (v := 3) (dk okX12_readsRank 54 rfl) (by decide) ?_
              refine J_goto (tgt := 96) (dk okX12_readsRank 55 rfl) (by decide) ?_
              refine J_sub (ls' := [(0, _), (1, _)]) [1, 2] rfl ?_
              (try simp only [if_neg h11, if_pos h12] at K13 ⊢); exact K13
          · refine J_iconst (v := 0) (dk okX12_readsRank 49 rfl) (by decide) ?_
            refine J_goto (tgt := 96) (dk okX12_readsRank 50 rfl) (by decide) ?_
            refine J_sub (ls' := [(0, _), (1, _)]) [1, 2] rfl ?_
            (try simp only [if_pos h11] at K13 ⊢); exact K13
        · refine J_iconst (v := 0) (dk okX12_readsRank 41 rfl) (by decide) ?_
          exact J_zret (dk okX12_readsRank 42 rfl) rfl rfl (kx 0 μ9 (by subst eμ9 eμ6; unfold bd_X12_readsRank_24; first | (simp only [if_neg h1, if_pos h7, if_pos h10]; done) | (simp only [if_neg h1, if_pos h7, if_pos h10]; rfl) | rfl))
      · refine J_iconst (v := 1) (dk okX12_readsRank 33 rfl) (by decide) ?_
        exact J_zret (dk okX12_readsRank 34 rfl) rfl rfl (kx 1 μ6 (by subst eμ6; unfold bd_X12_readsRank_24; first | (simp only [if_neg h1, if_neg h7]; done) | (simp only [if_neg h1, if_neg h7]; rfl) | rfl))
    refine J_if_ne (tgt := 38) (dk okX12_readsRank 20 rfl) (by decide) (fun h2 => ?_) (fun h2 => ?_)
    · refine J_iload_n (dk okX12_readsRank 23 rfl) 1 rfl rfl ?_
      refine J_iconst (v := 1) (dk okX12_readsRank 24 rfl) (by decide) ?_
      refine J_icmp_ne (tgt := 48) (dk okX12_readsRank 25 rfl) (by decide) (fun h3 => ?_) (fun h3 => ?_)
      · refine J_ldcS (i := 5) (tx := "*/") (dk okX12_readsRank 28 rfl) (by decide +kernel) ?_
        refine J_sub (ls' := [(0, _), (1, _)]) [0, 1] rfl ?_
        (try simp only [if_neg h2, if_neg h3] at K4 ⊢); exact K4
      · refine J_ldcS (i := 4) (tx := "+-") (dk okX12_readsRank 26 rfl) (by decide +kernel) ?_
        refine J_goto (tgt := 50) (dk okX12_readsRank 27 rfl) (by decide) ?_
        refine J_sub (ls' := [(0, _), (1, _)]) [0, 1] rfl ?_
        (try simp only [if_neg h2, if_pos h3] at K4 ⊢); exact K4
    · refine J_ldcS (i := 3) (tx := "<>=") (dk okX12_readsRank 21 rfl) (by decide +kernel) ?_
      refine J_goto (tgt := 50) (dk okX12_readsRank 22 rfl) (by decide) ?_
      refine J_sub (ls' := [(0, _), (1, _)]) [0, 1] rfl ?_
      (try simp only [if_pos h2] at K4 ⊢); exact K4
/-- VotingFloorModel.readsRank(I)Z -/
noncomputable def vr_X12_readsRank (F : Option Int32 → Mm → Int32 × Mm) (PF : Option Int32 → Mm → Prop) (p0 : Int32) (μ : Mm) : Int32 := (if p0 = 3 then ((F none μ).1) else (let μ6 : Mm := ((F (some (p0 + 1)) μ).2); (if ((F (some (p0 + 1)) μ).1) = 0 then 0 else (whl (fun s : Int32 × Int32 × Mm => bd_X12_readsRank_24 F PF  s.1 s.2.1 s.2.2) (fun s : Int32 × Int32 × Mm => (0, s.2.2)) FU (p0, 1, μ6)).1)))
noncomputable def er_X12_readsRank (F : Option Int32 → Mm → Int32 × Mm) (PF : Option Int32 → Mm → Prop) (p0 : Int32) (μ : Mm) : Mm := (if p0 = 3 then (let μ3 : Mm := ((F none μ).2); μ3) else (let μ6 : Mm := ((F (some (p0 + 1)) μ).2); (if ((F (some (p0 + 1)) μ).1) = 0 then μ6 else (whl (fun s : Int32 × Int32 × Mm => bd_X12_readsRank_24 F PF  s.1 s.2.1 s.2.2) (fun s : Int32 × Int32 × Mm => (0, s.2.2)) FU (p0, 1, μ6)).2)))
def pr_X12_readsRank (F : Option Int32 → Mm → Int32 × Mm) (PF : Option Int32 → Mm → Prop) (p0 : Int32)  (μ : Mm) : Prop := ((p0 = 3 → (PF none μ) ∧ (∀ μ3 : Mm, μ3 = ((F none μ).2) → narrow .boolean (.int ((F none μ).1)) = .int ((F none μ).1))) ∧ (¬ (p0 = 3) → (PF (some (p0 + 1)) μ) ∧ (∀ μ6 : Mm, μ6 = ((F (some (p0 + 1)) μ).2) → (¬ (((F (some (p0 + 1)) μ).1) = 0) → whP (fun s : Int32 × Int32 × Mm => bd_X12_readsRank_24 F PF  s.1 s.2.1 s.2.2) (fun s : Int32 × Int32 × Mm => sd_X12_readsRank_24 F PF   s.1 s.2.1 s.2.2) FU (p0, 1, μ6)))))
set_option maxRecDepth 20000 in
set_option maxHeartbeats 4000000 in
theorem cr_X12_readsRank {E : Ex} {n : Nat} {F : Option Int32 → Mm → Int32 × Mm} {PF : Option Int32 → Mm → Prop} (ihT : ∀ (μ : Mm) (Q : Option Value → Mm → Prop), PF none μ → Q (some (.int (F none μ).1)) (F none μ).2 → Con E (n + 20) mX12_readsThing [rf E 49] μ Q) (ihR : ∀ (r : Int32) (μ : Mm) (Q : Option Value → Mm → Prop), PF (some r) μ → Q (some (.int (F (some r) μ).1)) (F (some r) μ).2 → Con E (n + 20) mX12_readsRank [rf E 49, .int r] μ Q) {Q : Option Value → Mm → Prop} {p0 : Int32} {μ : Mm} (t : pr_X12_readsRank F PF p0  μ) (k : Q (some (.int (vr_X12_readsRank F PF p0 μ))) (er_X12_readsRank F PF p0 μ)) : Con E (n + 21) mX12_readsRank [rf E 49, .int p0] μ Q := by
  refine Con_J (by decide +kernel) (Nat.le_of_ble_eq_true rfl) (fun G => ?_)
  unfold vr_X12_readsRank er_X12_readsRank at k
  unfold pr_X12_readsRank at t
  refine J_sub (ls' := [(0, rf E 49), (1, .int p0)]) [0, 1] rfl ?_
  refine J_iload_n (dk okX12_readsRank 0 rfl) 1 rfl rfl ?_
  refine J_iconst (v := 3) (dk okX12_readsRank 1 rfl) (by decide) ?_
  refine J_icmp_ne (tgt := 10) (dk okX12_readsRank 2 rfl) (by decide) (fun h1 => ?_) (fun h1 => ?_)
  · have t := t.2 h1
    refine J_aload_n (dk okX12_readsRank 6 rfl) 0 rfl rfl ?_
    refine J_iload_n (dk okX12_readsRank 7 rfl) 1 rfl rfl ?_
    refine J_iconst (v := 1) (dk okX12_readsRank 8 rfl) (by decide) ?_
    refine J_iadd (dk okX12_readsRank 9 rfl) ?_
    obtain ⟨s5, t⟩ := t
    refine J_callVi (As := [.int (p0 + 1)]) (dk okX12_readsRank 10 rfl) ds_49 rfl vkX12_readsRank lkX12_231 rfl rfl (Nat.le_of_ble_eq_true rfl) (by omega) (ihR _ _ _ s5 ⟨_, rfl, ?_⟩)
    refine J_nm (fun μ6 eμ6 => ?_)
    have t := t μ6 eμ6
    refine J_if_ne (tgt := 22) (dk okX12_readsRank 11 rfl) (by decide) (fun h7 => ?_) (fun h7 => ?_)
    · have t := t h7
      refine J_iconst (v := 1) (dk okX12_readsRank 14 rfl) (by decide) ?_
      refine J_istore_n (ls' := [(2, _), (0, _), (1, _)]) (dk okX12_readsRank 15 rfl) rfl (by decide) rfl ?_
      have s8 := t
      refine J_sub (ls' := [(0, _), (1, _), (2, _)]) [1, 2, 0] rfl ?_
      subst eμ6
      (try simp only [if_neg h1, if_neg h7] at k ⊢)
      exact lw_X12_readsRank_24 ihT ihR  s8 k
    · refine J_iconst (v := 0) (dk okX12_readsRank 12 rfl) (by decide) ?_
      subst eμ6
      (try simp only [if_neg h1, if_pos h7] at k ⊢)
      exact J_zret (dk okX12_readsRank 13 rfl) rfl rfl k
  · have t := t.1 h1
    refine J_aload_n (dk okX12_readsRank 3 rfl) 0 rfl rfl ?_
    obtain ⟨s2, t⟩ := t
    refine J_callVi (As := []) (dk okX12_readsRank 4 rfl) ds_49 rfl vkX12_readsThing lkX12_222 rfl rfl (Nat.le_of_ble_eq_true rfl) (by omega) (ihT _ _ s2 ⟨_, rfl, ?_⟩)
    refine J_nm (fun μ3 eμ3 => ?_)
    have t := t μ3 eμ3
    have s4 := t
    subst eμ3
    (try simp only [if_pos h1] at k ⊢)
    exact J_zret (dk okX12_readsRank 5 rfl) rfl s4 k
noncomputable def rdFP : Nat → (Option Int32 → Mm → Int32 × Mm) × (Option Int32 → Mm → Prop)
  | 0 => (fun _ _ => (0, m00), fun _ _ => False)
  | n + 1 => (fun t μ => match t with
      | none => (vr_X12_readsThing (rdFP n).1 (rdFP n).2 μ, er_X12_readsThing (rdFP n).1 (rdFP n).2 μ)
      | some r => (vr_X12_readsRank (rdFP n).1 (rdFP n).2 r μ, er_X12_readsRank (rdFP n).1 (rdFP n).2 r μ),
    fun t μ => match t with
      | none => pr_X12_readsThing (rdFP n).1 (rdFP n).2 μ
      | some r => pr_X12_readsRank (rdFP n).1 (rdFP n).2 r μ)
theorem ci_reads {E : Ex} : ∀ n : Nat, (∀ (μ : Mm) (Q : Option Value → Mm → Prop), (rdFP n).2 none μ → Q (some (.int ((rdFP n).1 none μ).1)) ((rdFP n).1 none μ).2 → Con E (n + 20) mX12_readsThing [rf E 49] μ Q) ∧
    (∀ (r : Int32) (μ : Mm) (Q : Option Value → Mm → Prop), (rdFP n).2 (some r) μ → Q (some (.int ((rdFP n).1 (some r) μ).1)) ((rdFP n).1 (some r) μ).2 → Con E (n + 20) mX12_readsRank [rf E 49, .int r] μ Q) := by
  intro n
  induction n with
  | zero => exact ⟨fun μ Q h => False.elim h, fun r μ Q h => False.elim h⟩
  | succ n ih => exact ⟨fun μ Q t k => cr_X12_readsThing ih.1 ih.2 t k, fun r μ Q t k => cr_X12_readsRank ih.1 ih.2 t k⟩
noncomputable def v_X12_readsRank (p0 : Int32) (μ : Mm) : Int32 := ((rdFP 100).1 (some p0) μ).1
noncomputable def e_X12_readsRank (p0 : Int32) (μ : Mm) : Mm := ((rdFP 100).1 (some p0) μ).2
def p_X12_readsRank (p0 : Int32) (μ : Mm) : Prop := (rdFP 100).2 (some p0) μ
theorem con_X12_readsRank {E : Ex} {Q : Option Value → Mm → Prop} {p0 : Int32} {μ : Mm} (t : p_X12_readsRank p0 μ) (k : Q (some (.int (v_X12_readsRank p0 μ))) (e_X12_readsRank p0 μ)) : Con E 120 mX12_readsRank [rf E 49, .int p0] μ Q := (ci_reads 100).2 p0 μ Q t k
/-- VotingFloorModel.entersFraction(JJ)I -/
noncomputable def v_X12_entersFraction (p0 : Int64) (p1 : Int64) : Int32 := 0
noncomputable def e_X12_entersFraction (p0 : Int64) (p1 : Int64) (μ : Mm) : Mm := (let μ2 : Mm := (upI μ 49 1 0); (let μ5 : Mm := (e_X12_enters (p0 / (v_X12_common p0 p1)) μ2); (let μ8 : Mm := (e_X12_enters (p1 / (v_X12_common p0 p1)) μ5); μ8)))
def p_X12_entersFraction (p0 : Int64) (p1 : Int64)  (μ : Mm) : Prop := (p_X12_common p0 p1) ∧ (∀ μ2 : Mm, μ2 = (upI μ 49 1 0) → (¬ (v_X12_common p0 p1) = 0) ∧ (p_X12_enters (p0 / (v_X12_common p0 p1)) μ2) ∧ (∀ μ5 : Mm, μ5 = (e_X12_enters (p0 / (v_X12_common p0 p1)) μ2) → (¬ (v_X12_common p0 p1) = 0) ∧ p_X12_enters (p1 / (v_X12_common p0 p1)) μ5))
set_option maxRecDepth 20000 in
set_option maxHeartbeats 4000000 in
theorem con_X12_entersFraction {E : Ex} {Q : Option Value → Mm → Prop} {p0 : Int64} {p1 : Int64} {μ : Mm} (t : p_X12_entersFraction p0 p1  μ) (k : Q (some (.int (v_X12_entersFraction p0 p1))) (e_X12_entersFraction p0 p1 μ)) : Con E 101 mX12_entersFraction [rf E 49, .long p0, .long p1] μ Q := by
  refine Con_J (by decide +kernel) (Nat.le_of_ble_eq_true rfl) (fun G => ?_)
  unfold v_X12_entersFraction e_X12_entersFraction at k
  unfold p_X12_entersFraction at t
  refine J_sub (ls' := [(0, rf E 49), (1, .long p0), (3, .long p1)]) [0, 1, 2] rfl ?_
  refine J_lload_n (dk okX12_entersFraction 0 rfl) 1 rfl rfl ?_
  refine J_lload_n (dk okX12_entersFraction 1 rfl) 2 rfl rfl ?_
  obtain ⟨s1, t⟩ := t
  refine J_callSl (As := [.long p0, .long p1]) (dk okX12_entersFraction 2 rfl) skX12_common lkX12_7 rfl rfl (Nat.le_of_ble_eq_true rfl) (by decide) (con_X12_common s1 ⟨_, rfl, ?_⟩)
  refine J_lstore (ls' := [(5, _), (0, _), (1, _), (3, _)]) (dk okX12_entersFraction 3 rfl) (by decide) rfl ?_
  refine J_aload_n (dk okX12_entersFraction 4 rfl) 1 rfl rfl ?_
  refine J_iconst (v := 0) (dk okX12_entersFraction 5 rfl) (by decide) ?_
  refine J_put (dk okX12_entersFraction 6 rfl) kpX12_15 ds_49 rfl rfl rfl ?_
  refine J_nm (fun μ2 eμ2 => ?_)
  have t := t μ2 eμ2
  refine J_aload_n (dk okX12_entersFraction 7 rfl) 1 rfl rfl ?_
  refine J_lload_n (dk okX12_entersFraction 8 rfl) 2 rfl rfl ?_
  refine J_lload (dk okX12_entersFraction 9 rfl) 0 rfl ?_
  obtain ⟨s3, t⟩ := t
  refine J_ldiv (dk okX12_entersFraction 10 rfl) s3 ?_
  obtain ⟨s4, t⟩ := t
  refine J_callVv (As := [.long (p0 / (v_X12_common p0 p1))]) (dk okX12_entersFraction 11 rfl) ds_49 rfl vkX12_enters lkX12_18 rfl rfl (Nat.le_of_ble_eq_true rfl) (by decide) (con_X12_enters s4 ⟨rfl, ?_⟩)
  refine J_nm (fun μ5 eμ5 => ?_)
  have t := t μ5 eμ5
  refine J_aload_n (dk okX12_entersFraction 12 rfl) 1 rfl rfl ?_
  refine J_lload_n (dk okX12_entersFraction 13 rfl) 3 rfl rfl ?_
  refine J_lload (dk okX12_entersFraction 14 rfl) 0 rfl ?_
  obtain ⟨s6, t⟩ := t
  refine J_ldiv (dk okX12_entersFraction 15 rfl) s6 ?_
  have s7 := t
  refine J_callVv (As := [.long (p1 / (v_X12_common p0 p1))]) (dk okX12_entersFraction 16 rfl) ds_49 rfl vkX12_enters lkX12_18 rfl rfl (Nat.le_of_ble_eq_true rfl) (by decide) (con_X12_enters s7 ⟨rfl, ?_⟩)
  refine J_nm (fun μ8 eμ8 => ?_)
  refine J_iconst (v := 0) (dk okX12_entersFraction 17 rfl) (by decide) ?_
  subst eμ8 eμ5 eμ2
  exact J_iret (dk okX12_entersFraction 18 rfl) rfl k
/-- VotingFloorModel.readsRule()I -/
noncomputable def v_X12_readsRule  (μ : Mm) : Int32 := (let μ1 : Mm := (e_X12_begins 40 μ); (let μ2 : Mm := (upI μ1 49 20 0); (let μ7 : Mm := (if (v_X12_begins 40 μ) = 0 then μ2 else ((e_X12_readsRank 0 μ2)) : Mm); (v_X12_faultOf (v_X12_begins 40 μ) 40 (if (v_X12_begins 40 μ) = 0 then 1 else (if (v_X12_readsRank 0 μ2) = 0 then 0 else 1 : Int32) : Int32) μ7))))
noncomputable def e_X12_readsRule  (μ : Mm) : Mm := (let μ1 : Mm := (e_X12_begins 40 μ); (let μ2 : Mm := (upI μ1 49 20 0); (let μ7 : Mm := (if (v_X12_begins 40 μ) = 0 then μ2 else ((e_X12_readsRank 0 μ2)) : Mm); μ7)))
def p_X12_readsRule   (μ : Mm) : Prop := (∀ μ1 : Mm, μ1 = (e_X12_begins 40 μ) → (∀ μ2 : Mm, μ2 = (upI μ1 49 20 0) → (¬ ((v_X12_begins 40 μ) = 0) → p_X12_readsRank 0 μ2)))
set_option maxRecDepth 20000 in
set_option maxHeartbeats 4000000 in
theorem con_X12_readsRule {E : Ex} {Q : Option Value → Mm → Prop} {μ : Mm} (t : p_X12_readsRule   μ) (k : Q (some (.int (v_X12_readsRule  μ))) (e_X12_readsRule  μ)) : Con E 121 mX12_readsRule [rf E 49] μ Q := by
  refine Con_J (by decide +kernel) (Nat.le_of_ble_eq_true rfl) (fun G => ?_)
  unfold v_X12_readsRule e_X12_readsRule at k
  unfold p_X12_readsRule at t
  refine J_sub (ls' := [(0, rf E 49)]) [0] rfl ?_
  refine J_aload_n (dk okX12_readsRule 0 rfl) 0 rfl rfl ?_
  refine J_bipush (v := 40) (dk okX12_readsRule 1 rfl) (by decide) ?_
  refine J_callVi (As := [.int 40]) (dk okX12_readsRule 2 rfl) ds_49 rfl vkX12_begins lkX12_199 rfl rfl (Nat.le_of_ble_eq_true rfl) (by decide) (con_X12_begins  ⟨_, rfl, ?_⟩)
  refine J_nm (fun μ1 eμ1 => ?_)
  have t := t μ1 eμ1
  refine J_istore_n (ls' := [(1, _), (0, _)]) (dk okX12_readsRule 3 rfl) rfl (by decide) rfl ?_
  refine J_aload_n (dk okX12_readsRule 4 rfl) 1 rfl rfl ?_
  refine J_iconst (v := 0) (dk okX12_readsRule 5 rfl) (by decide) ?_
  refine J_put (dk okX12_readsRule 6 rfl) kpX12_219 ds_49 rfl rfl rfl ?_
  refine J_nm (fun μ2 eμ2 => ?_)
  have t := t μ2 eμ2
  refine J_iload_n (dk okX12_readsRule 7 rfl) 0 rfl rfl ?_
  have K8 : J E G 121 mX12_readsRule Q 29 [(0, rf E 49), (1, .int (v_X12_begins 40 μ))] [.int (if (v_X12_begins 40 μ) = 0 then 1 else (if (v_X12_readsRank 0 μ2) = 0 then 0 else 1 : Int32) : Int32)] (if (v_X12_begins 40 μ) = 0 then μ2 else ((e_X12_readsRank 0 μ2)) : Mm) := by
    refine J_nm (fun μ7 eμ7 => ?_)
    refine J_istore_n (ls' := [(2, _), (0, _), (1, _)]) (dk okX12_readsRule 16 rfl) rfl (by decide) rfl ?_
    refine J_aload_n (dk okX12_readsRule 17 rfl) 1 rfl rfl ?_
    refine J_iload_n (dk okX12_readsRule 18 rfl) 2 rfl rfl ?_
    refine J_bipush (v := 40) (dk okX12_readsRule 19 rfl) (by decide) ?_
    refine J_iload_n (dk okX12_readsRule 20 rfl) 0 rfl rfl ?_
    refine J_callVi (As := [.int (v_X12_begins 40 μ), .int 40, .int (if (v_X12_begins 40 μ) = 0 then 1 else (if (v_X12_readsRank 0 μ2) = 0 then 0 else 1 : Int32) : Int32)]) (dk okX12_readsRule 21 rfl) ds_49 rfl vkX12_faultOf lkX12_209 rfl rfl (Nat.le_of_ble_eq_true rfl) (by decide) (con_X12_faultOf  ⟨_, rfl, ?_⟩)
    subst eμ7 eμ2 eμ1
    exact J_iret (dk okX12_readsRule 22 rfl) rfl k
  refine J_if_eq (tgt := 24) (dk okX12_readsRule 8 rfl) (by decide) (fun h3 => ?_) (fun h3 => ?_)
  · refine J_iconst (v := 1) (dk okX12_readsRule 13 rfl) (by decide) ?_
    refine J_goto (tgt := 29) (dk okX12_readsRule 14 rfl) (by decide) ?_
    refine J_sub (ls' := [(0, _), (1, _)]) [1, 0] rfl ?_
    (try simp only [if_pos h3] at K8 ⊢); exact K8
  · have t := t h3
    refine J_aload_n (dk okX12_readsRule 9 rfl) 1 rfl rfl ?_
    refine J_iconst (v := 0) (dk okX12_readsRule 10 rfl) (by decide) ?_
    have s4 := t
    refine J_callVi (As := [.int 0]) (dk okX12_readsRule 11 rfl) ds_49 rfl vkX12_readsRank lkX12_231 rfl rfl (Nat.le_of_ble_eq_true rfl) (by decide) (con_X12_readsRank s4 ⟨_, rfl, ?_⟩)
    refine J_nm (fun μ5 eμ5 => ?_)
    refine J_if_eq (tgt := 28) (dk okX12_readsRule 12 rfl) (by decide) (fun h6 => ?_) (fun h6 => ?_)
    · refine J_iconst (v := 0) (dk okX12_readsRule 15 rfl) (by decide) ?_
      subst eμ5
      refine J_sub (ls' := [(0, _), (1, _)]) [1, 0] rfl ?_
      (try simp only [if_neg h3, if_pos h6] at K8 ⊢); exact K8
    · refine J_iconst (v := 1) (dk okX12_readsRule 13 rfl) (by decide) ?_
      refine J_goto (tgt := 29) (dk okX12_readsRule 14 rfl) (by decide) ?_
      subst eμ5
      refine J_sub (ls' := [(0, _), (1, _)]) [1, 0] rfl ?_
      (try simp only [if_neg h3, if_neg h6] at K8 ⊢); exact K8
noncomputable def bd_X12_faints_36  (μ : Mm) (x1 : Int32) (x2 : Int32) (x3 : Int64) (x5 : Int64) (x7 : Int32) : (Int32 × Int32 × Int64 × Int64 × Int32) ⊕ (Int32 × Int32 × Int64 × Int64) := (if (v_J6_bitCount_0f7a4 x2) ≤ x7 then .inr (x1, x2, x3, x5) else .inl (x1, x2, x3, (x5 * 10), (x7 + 1)))
def sd_X12_faints_36   (μ : Mm) (x1 : Int32) (x2 : Int32) (x3 : Int64) (x5 : Int64) (x7 : Int32) : Prop := True
set_option maxRecDepth 20000 in
set_option maxHeartbeats 4000000 in
theorem lw_X12_faints_36 {E : Ex} {G : Gx} {Q : Option Value → Mm → Prop} {x1 : Int32} {x2 : Int32} {x3 : Int64} {x5 : Int64} {x7 : Int32} {μ : Mm}  (p : whP (fun s : Int32 × Int32 × Int64 × Int64 × Int32 => bd_X12_faints_36  μ s.1 s.2.1 s.2.2.1 s.2.2.2.1 s.2.2.2.2) (fun s : Int32 × Int32 × Int64 × Int64 × Int32 => sd_X12_faints_36   μ s.1 s.2.1 s.2.2.1 s.2.2.2.1 s.2.2.2.2) FU (x1, x2, x3, x5, x7)) (k : ∀ r : Int32 × Int32 × Int64 × Int64, r = whl (fun s : Int32 × Int32 × Int64 × Int64 × Int32 => bd_X12_faints_36  μ s.1 s.2.1 s.2.2.1 s.2.2.2.1 s.2.2.2.2) (fun _ : Int32 × Int32 × Int64 × Int64 × Int32 => (0, 0, 0, 0)) FU (x1, x2, x3, x5, x7) → J E G 102 mX12_faints Q 59 [(0, rf E 49), (1, .int (r.1)), (2, .int (r.2.1)), (3, .long (r.2.2.1)), (5, .long (r.2.2.2))] [] μ) : J E G 102 mX12_faints Q 36 [(0, rf E 49), (1, .int x1), (2, .int x2), (3, .long x3), (5, .long x5), (7, .int x7)] [] μ := by
  refine J_whl (f := (fun s : Int32 × Int32 × Int64 × Int64 × Int32 => bd_X12_faints_36  μ s.1 s.2.1 s.2.2.1 s.2.2.2.1 s.2.2.2.2)) (dd := (fun _ : Int32 × Int32 × Int64 × Int64 × Int32 => (0, 0, 0, 0))) (sd := (fun s : Int32 × Int32 × Int64 × Int64 × Int32 => sd_X12_faints_36   μ s.1 s.2.1 s.2.2.1 s.2.2.2.1 s.2.2.2.2)) (P := fun s : Int32 × Int32 × Int64 × Int64 × Int32 => J E G 102 mX12_faints Q 36 [(0, rf E 49), (1, .int (s.1)), (2, .int (s.2.1)), (3, .long (s.2.2.1)), (5, .long (s.2.2.2.1)), (7, .int (s.2.2.2.2))] [] (μ)) (R := fun r : Int32 × Int32 × Int64 × Int64 => J E G 102 mX12_faints Q 59 [(0, rf E 49), (1, .int (r.1)), (2, .int (r.2.1)), (3, .long (r.2.2.1)), (5, .long (r.2.2.2))] [] μ) ?_ FU (x1, x2, x3, x5, x7) p (k _ rfl)
  clear p k
  rintro ⟨x1, x2, x3, x5, x7⟩ t k1 k2
  dsimp only [sd_X12_faints_36] at t
  have kb : ∀ (y1 : Int32) (y2 : Int32) (y3 : Int64) (y5 : Int64) (y7 : Int32) , bd_X12_faints_36  μ x1 x2 x3 x5 x7 = .inl (y1, y2, y3, y5, y7) → J E G 102 mX12_faints Q 36 [(0, rf E 49), (1, .int y1), (2, .int y2), (3, .long y3), (5, .long y5), (7, .int y7)] [] μ := fun y1 y2 y3 y5 y7  h => k1 (y1, y2, y3, y5, y7) h
  have kx : ∀ (y1 : Int32) (y2 : Int32) (y3 : Int64) (y5 : Int64) , bd_X12_faints_36  μ x1 x2 x3 x5 x7 = .inr (y1, y2, y3, y5) → J E G 102 mX12_faints Q 59 [(0, rf E 49), (1, .int y1), (2, .int y2), (3, .long y3), (5, .long y5)] [] μ := fun y1 y2 y3 y5  h => k2 (y1, y2, y3, y5) h
  clear k1 k2
  refine J_iload (dk okX12_faints 22 rfl) 5 rfl ?_
  refine J_iload_n (dk okX12_faints 23 rfl) 2 rfl rfl ?_
  refine J_callSi (As := [.int x2]) (dk okX12_faints 24 rfl) skJ6_bitCount_0f7a4 lkX12_299 rfl rfl (Nat.le_of_ble_eq_true rfl) (by decide) (con_J6_bitCount_0f7a4  ⟨_, rfl, ?_⟩)
  refine J_icmp_ge (tgt := 59) (dk okX12_faints 25 rfl) (by decide) (fun h1 => ?_) (fun h1 => ?_)
  · exact J_sub [0, 1, 2, 3, 4] rfl (kx x1 x2 x3 x5 (by unfold bd_X12_faints_36; first | (simp only [if_pos h1]; done) | (simp only [if_pos h1]; rfl) | rfl))
  · refine J_lload (dk okX12_faints 26 rfl) 4 rfl ?_
    refine J_ldc2 (v := 10) (dk okX12_faints 27 rfl) kcX12_428 ?_
    refine J_lmul (dk okX12_faints 28 rfl) ?_
    refine J_lstore (ls' := [(5, _), (0, _), (1, _), (2, _), (3, _), (7, _)]) (dk okX12_faints 29 rfl) (by decide) rfl ?_
    refine J_iinc (v := (x7 + 1)) (ls' := [(7, _), (5, _), (0, _), (1, _), (2, _), (3, _)]) (dk okX12_faints 30 rfl) 5 rfl rfl (by decide) rfl ?_
    refine J_goto (tgt := 36) (dk okX12_faints 31 rfl) (by decide) ?_
    exact J_sub [2, 3, 4, 5, 1, 0] rfl (kb x1 x2 x3 (x5 * 10) (x7 + 1) (by unfold bd_X12_faints_36; first | (simp only [if_neg h1]; done) | (simp only [if_neg h1]; rfl) | rfl))
noncomputable def bd_X12_faints_108  (μ : Mm) (x1 : Int32) (x2 : Int32) (x3 : Int64) (x5 : Int64) (x7 : Int32) (x9 : Int64) (x11 : Int32) : (Int32 × Int32 × Int64 × Int64 × Int32 × Int64 × Int32) ⊕ (Int32 × Int32 × Int64 × Int64 × Int32 × Int64) := (if (μ.1 49 3) ≤ x11 then .inr (x1, x2, x3, x5, x7, x9) else (if (lg_cmp x9 0) ≤ 0 then .inr (x1, x2, x3, x5, x7, x9) else .inl (x1, x2, x3, x5, x7, (x9 * (if (v_X12_has x2 x11) = 0 then 1 else (if (v_X12_has x7 x11) = 0 then (Int32.toInt64 x1) else (Int32.toInt64 (10 - x1)) : Int64) : Int64)), (x11 + 1))))
def sd_X12_faints_108   (μ : Mm) (x1 : Int32) (x2 : Int32) (x3 : Int64) (x5 : Int64) (x7 : Int32) (x9 : Int64) (x11 : Int32) : Prop := True
set_option maxRecDepth 20000 in
set_option maxHeartbeats 4000000 in
theorem lw_X12_faints_108 {E : Ex} {G : Gx} {Q : Option Value → Mm → Prop} {x1 : Int32} {x2 : Int32} {x3 : Int64} {x5 : Int64} {x7 : Int32} {x9 : Int64} {x11 : Int32} {μ : Mm}  (p : whP (fun s : Int32 × Int32 × Int64 × Int64 × Int32 × Int64 × Int32 => bd_X12_faints_108  μ s.1 s.2.1 s.2.2.1 s.2.2.2.1 s.2.2.2.2.1 s.2.2.2.2.2.1 s.2.2.2.2.2.2) (fun s : Int32 × Int32 × Int64 × Int64 × Int32 × Int64 × Int32 => sd_X12_faints_108   μ s.1 s.2.1 s.2.2.1 s.2.2.2.1 s.2.2.2.2.1 s.2.2.2.2.2.1 s.2.2.2.2.2.2) FU (x1, x2, x3, x5, x7, x9, x11)) (k : ∀ r : Int32 × Int32 × Int64 × Int64 × Int32 × Int64, r = whl (fun s : Int32 × Int32 × Int64 × Int64 × Int32 × Int64 × Int32 => bd_X12_faints_108  μ s.1 s.2.1 s.2.2.1 s.2.2.2.1 s.2.2.2.2.1 s.2.2.2.2.2.1 s.2.2.2.2.2.2) (fun _ : Int32 × Int32 × Int64 × Int64 × Int32 × Int64 × Int32 => (0, 0, 0, 0, 0, 0)) FU (x1, x2, x3, x5, x7, x9, x11) → J E G 102 mX12_faints Q 168 [(0, rf E 49), (1, .int (r.1)), (2, .int (r.2.1)), (3, .long (r.2.2.1)), (5, .long (r.2.2.2.1)), (7, .int (r.2.2.2.2.1)), (9, .long (r.2.2.2.2.2))] [] μ) : J E G 102 mX12_faints Q 108 [(0, rf E 49), (1, .int x1), (2, .int x2), (3, .long x3), (5, .long x5), (7, .int x7), (9, .long x9), (11, .int x11)] [] μ := by
  refine J_whl (f := (fun s : Int32 × Int32 × Int64 × Int64 × Int32 × Int64 × Int32 => bd_X12_faints_108  μ s.1 s.2.1 s.2.2.1 s.2.2.2.1 s.2.2.2.2.1 s.2.2.2.2.2.1 s.2.2.2.2.2.2)) (dd := (fun _ : Int32 × Int32 × Int64 × Int64 × Int32 × Int64 × Int32 => (0, 0, 0, 0, 0, 0))) (sd := (fun s : Int32 × Int32 × Int64 × Int64 × Int32 × Int64 × Int32 => sd_X12_faints_108   μ s.1 s.2.1 s.2.2.1 s.2.2.2.1 s.2.2.2.2.1 s.2.2.2.2.2.1 s.2.2.2.2.2.2)) (P := fun s : Int32 × Int32 × Int64 × Int64 × Int32 × Int64 × Int32 => J E G 102 mX12_faints Q 108 [(0, rf E 49), (1, .int (s.1)), (2, .int (s.2.1)), (3, .long (s.2.2.1)), (5, .long (s.2.2.2.1)), (7, .int (s.2.2.2.2.1)), (9, .long (s.2.2.2.2.2.1)), (11, .int (s.2.2.2.2.2.2))] [] (μ)) (R := fun r : Int32 × Int32 × Int64 × Int64 × Int32 × Int64 => J E G 102 mX12_faints Q 168 [(0, rf E 49), (1, .int (r.1)), (2, .int (r.2.1)), (3, .long (r.2.2.1)), (5, .long (r.2.2.2.1)), (7, .int (r.2.2.2.2.1)), (9, .long (r.2.2.2.2.2))] [] μ) ?_ FU (x1, x2, x3, x5, x7, x9, x11) p (k _ rfl)
  clear p k
  rintro ⟨x1, x2, x3, x5, x7, x9, x11⟩ t k1 k2
  dsimp only [sd_X12_faints_108] at t
  have kb : ∀ (y1 : Int32) (y2 : Int32) (y3 : Int64) (y5 : Int64) (y7 : Int32) (y9 : Int64) (y11 : Int32) , bd_X12_faints_108  μ x1 x2 x3 x5 x7 x9 x11 = .inl (y1, y2, y3, y5, y7, y9, y11) → J E G 102 mX12_faints Q 108 [(0, rf E 49), (1, .int y1), (2, .int y2), (3, .long y3), (5, .long y5), (7, .int y7), (9, .long y9), (11, .int y11)] [] μ := fun y1 y2 y3 y5 y7 y9 y11  h => k1 (y1, y2, y3, y5, y7, y9, y11) h
  have kx : ∀ (y1 : Int32) (y2 : Int32) (y3 : Int64) (y5 : Int64) (y7 : Int32) (y9 : Int64) , bd_X12_faints_108  μ x1 x2 x3 x5 x7 x9 x11 = .inr (y1, y2, y3, y5, y7, y9) → J E G 102 mX12_faints Q 168 [(0, rf E 49), (1, .int y1), (2, .int y2), (3, .long y3), (5, .long y5), (7, .int y7), (9, .long y9)] [] μ := fun y1 y2 y3 y5 y7 y9  h => k2 (y1, y2, y3, y5, y7, y9) h
  clear k1 k2
  refine J_iload (dk okX12_faints 59 rfl) 7 rfl ?_
  refine J_aload_n (dk okX12_faints 60 rfl) 0 rfl rfl ?_
  refine J_getI (dk okX12_faints 61 rfl) kfX12_111 ds_49 rfl ?_
  refine J_icmp_ge (tgt := 168) (dk okX12_faints 62 rfl) (by decide) (fun h1 => ?_) (fun h1 => ?_)
  · exact J_sub [0, 1, 2, 3, 4, 5, 6] rfl (kx x1 x2 x3 x5 x7 x9 (by unfold bd_X12_faints_108; first | (simp only [if_pos h1]; done) | (simp only [if_pos h1]; rfl) | rfl))
  · refine J_lload (dk okX12_faints 63 rfl) 6 rfl ?_
    refine J_lconst (v := 0) (dk okX12_faints 64 rfl) (by decide) ?_
    refine J_lcmp (dk okX12_faints 65 rfl) ?_
    refine J_if_le (tgt := 168) (dk okX12_faints 66 rfl) (by decide) (fun h2 => ?_) (fun h2 => ?_)
    · exact J_sub [0, 1, 2, 3, 4, 5, 6] rfl (kx x1 x2 x3 x5 x7 x9 (by unfold bd_X12_faints_108; first | (simp only [if_neg h1, if_pos h2]; done) | (simp only [if_neg h1, if_pos h2]; rfl) | rfl))
    · refine J_lload (dk okX12_faints 67 rfl) 6 rfl ?_
      refine J_iload_n (dk okX12_faints 68 rfl) 2 rfl rfl ?_
      refine J_iload (dk okX12_faints 69 rfl) 7 rfl ?_
      refine J_callSi (As := [.int x2, .int x11]) (dk okX12_faints 70 rfl) skX12_has lkX12_126 rfl rfl (Nat.le_of_ble_eq_true rfl) (by decide) (con_X12_has  ⟨_, rfl, ?_⟩)
      have K5 : J E G 102 mX12_faints Q 159 [(0, rf E 49), (1, .int x1), (2, .int x2), (3, .long x3), (5, .long x5), (7, .int x7), (11, .int x11)] [.long (if (v_X12_has x2 x11) = 0 then 1 else (if (v_X12_has x7 x11) = 0 then (Int32.toInt64 x1) else (Int32.toInt64 (10 - x1)) : Int64) : Int64), .long x9] μ := by
        refine J_lmul (dk okX12_faints 85 rfl) ?_
        refine J_lstore (ls' := [(9, _), (0, _), (1, _), (2, _), (3, _), (5, _), (7, _), (11, _)]) (dk okX12_faints 86 rfl) (by decide) rfl ?_
        refine J_iinc (v := (x11 + 1)) (ls' := [(11, _), (9, _), (0, _), (1, _), (2, _), (3, _), (5, _), (7, _)]) (dk okX12_faints 87 rfl) 7 rfl rfl (by decide) rfl ?_
        refine J_goto (tgt := 108) (dk okX12_faints 88 rfl) (by decide) ?_
        exact J_sub [2, 3, 4, 5, 6, 7, 1, 0] rfl (kb x1 x2 x3 x5 x7 (x9 * (if (v_X12_has x2 x11) = 0 then 1 else (if (v_X12_has x7 x11) = 0 then (Int32.toInt64 x1) else (Int32.toInt64 (10 - x1)) : Int64) : Int64)) (x11 + 1) (by unfold bd_X12_faints_108; first | (simp only [if_neg h1, if_neg h2]; done) | (simp only [if_neg h1, if_neg h2]; rfl) | rfl))
      refine J_if_ne (tgt := 139) (dk okX12_faints 71 rfl) (by decide) (fun h3 => ?_) (fun h3 => ?_)
      · refine J_iload (dk okX12_faints 74 rfl) 5 rfl ?_
        refine J_iload (dk okX12_faints 75 rfl) 7 rfl ?_
        refine J_callSi (As := [.int x7, .int x11]) (dk okX12_faints 76 rfl) skX12_has lkX12_126 rfl rfl (Nat.le_of_ble_eq_true rfl) (by decide) (con_X12_has  ⟨_, rfl, ?_⟩)
        refine J_if_eq (tgt := 157) (dk okX12_faints 77 rfl) (by decide) (fun h4 => ?_) (fun h4 => ?_)
        · refine J_iload_n (dk okX12_faints 83 rfl) 1 rfl rfl ?_
          refine J_i2l (dk okX12_faints 84 rfl) ?_
          refine J_sub (ls' := [(0, _), (1, _), (2, _), (3, _), (5, _), (7, _), (11, _)]) [0, 1, 2, 3, 4, 5, 7] rfl ?_
          (try simp only [if_neg h3, if_pos h4] at K5 ⊢); exact K5
        · refine J_bipush (v := 10) (dk okX12_faints 78 rfl) (by decide) ?_
          refine J_iload_n (dk okX12_faints 79 rfl) 1 rfl rfl ?_
          refine J_isub (dk okX12_faints 80 rfl) ?_
          refine J_i2l (dk okX12_faints 81 rfl) ?_
          refine J_goto (tgt := 159) (dk okX12_faints 82 rfl) (by decide) ?_
          refine J_sub (ls' := [(0, _), (1, _), (2, _), (3, _), (5, _), (7, _), (11, _)]) [0, 1, 2, 3, 4, 5, 7] rfl ?_
          (try simp only [if_neg h3, if_neg h4] at K5 ⊢); exact K5
      · refine J_lconst (v := 1) (dk okX12_faints 72 rfl) (by decide) ?_
        refine J_goto (tgt := 159) (dk okX12_faints 73 rfl) (by decide) ?_
        refine J_sub (ls' := [(0, _), (1, _), (2, _), (3, _), (5, _), (7, _), (11, _)]) [0, 1, 2, 3, 4, 5, 7] rfl ?_
        (try simp only [if_pos h3] at K5 ⊢); exact K5
noncomputable def bd_X12_faints_62  (μ : Mm) (x1 : Int32) (x2 : Int32) (x3 : Int64) (x5 : Int64) (x7 : Int32) : (Int32 × Int32 × Int64 × Int64 × Int32) ⊕ (Int64 × Int64) := (if x2 < x7 then .inr (x3, x5) else (let r7 : Int32 × Int32 × Int64 × Int64 × Int32 × Int64 := whl (fun s : Int32 × Int32 × Int64 × Int64 × Int32 × Int64 × Int32 => bd_X12_faints_108  μ s.1 s.2.1 s.2.2.1 s.2.2.2.1 s.2.2.2.2.1 s.2.2.2.2.2.1 s.2.2.2.2.2.2) (fun _ : Int32 × Int32 × Int64 × Int64 × Int32 × Int64 × Int32 => (0, 0, 0, 0, 0, 0)) FU (x1, x2, x3, x5, x7, (Int32.toInt64 (v_X12_flag (if (x7 &&& (x2 ^^^ (-1))) = 0 then (if (v_X12_momentOf 52 x7 μ) ≤ 0 then 0 else 1 : Int32) else 0 : Int32))), 0); .inl ((r7.1), (r7.2.1), ((r7.2.2.1) + (r7.2.2.2.2.2)), (r7.2.2.2.1), ((r7.2.2.2.2.1) + 1))))
def sd_X12_faints_62   (μ : Mm) (x1 : Int32) (x2 : Int32) (x3 : Int64) (x5 : Int64) (x7 : Int32) : Prop := (¬ (x2 < x7) → (((x7 &&& (x2 ^^^ (-1))) = 0 → p_X12_momentOf 52 x7 μ)) ∧ whP (fun s : Int32 × Int32 × Int64 × Int64 × Int32 × Int64 × Int32 => bd_X12_faints_108  μ s.1 s.2.1 s.2.2.1 s.2.2.2.1 s.2.2.2.2.1 s.2.2.2.2.2.1 s.2.2.2.2.2.2) (fun s : Int32 × Int32 × Int64 × Int64 × Int32 × Int64 × Int32 => sd_X12_faints_108   μ s.1 s.2.1 s.2.2.1 s.2.2.2.1 s.2.2.2.2.1 s.2.2.2.2.2.1 s.2.2.2.2.2.2) FU (x1, x2, x3, x5, x7, (Int32.toInt64 (v_X12_flag (if (x7 &&& (x2 ^^^ (-1))) = 0 then (if (v_X12_momentOf 52 x7 μ) ≤ 0 then 0 else 1 : Int32) else 0 : Int32))), 0))
set_option maxRecDepth 20000 in
set_option maxHeartbeats 4000000 in
theorem lw_X12_faints_62 {E : Ex} {G : Gx} {Q : Option Value → Mm → Prop} {x1 : Int32} {x2 : Int32} {x3 : Int64} {x5 : Int64} {x7 : Int32} {μ : Mm}  (p : whP (fun s : Int32 × Int32 × Int64 × Int64 × Int32 => bd_X12_faints_62  μ s.1 s.2.1 s.2.2.1 s.2.2.2.1 s.2.2.2.2) (fun s : Int32 × Int32 × Int64 × Int64 × Int32 => sd_X12_faints_62   μ s.1 s.2.1 s.2.2.1 s.2.2.2.1 s.2.2.2.2) FU (x1, x2, x3, x5, x7)) (k : ∀ r : Int64 × Int64, r = whl (fun s : Int32 × Int32 × Int64 × Int64 × Int32 => bd_X12_faints_62  μ s.1 s.2.1 s.2.2.1 s.2.2.2.1 s.2.2.2.2) (fun _ : Int32 × Int32 × Int64 × Int64 × Int32 => (0, 0)) FU (x1, x2, x3, x5, x7) → J E G 102 mX12_faints Q 179 [(0, rf E 49), (3, .long (r.1)), (5, .long (r.2))] [] μ) : J E G 102 mX12_faints Q 62 [(0, rf E 49), (1, .int x1), (2, .int x2), (3, .long x3), (5, .long x5), (7, .int x7)] [] μ := by
  refine J_whl (f := (fun s : Int32 × Int32 × Int64 × Int64 × Int32 => bd_X12_faints_62  μ s.1 s.2.1 s.2.2.1 s.2.2.2.1 s.2.2.2.2)) (dd := (fun _ : Int32 × Int32 × Int64 × Int64 × Int32 => (0, 0))) (sd := (fun s : Int32 × Int32 × Int64 × Int64 × Int32 => sd_X12_faints_62   μ s.1 s.2.1 s.2.2.1 s.2.2.2.1 s.2.2.2.2)) (P := fun s : Int32 × Int32 × Int64 × Int64 × Int32 => J E G 102 mX12_faints Q 62 [(0, rf E 49), (1, .int (s.1)), (2, .int (s.2.1)), (3, .long (s.2.2.1)), (5, .long (s.2.2.2.1)), (7, .int (s.2.2.2.2))] [] (μ)) (R := fun r : Int64 × Int64 => J E G 102 mX12_faints Q 179 [(0, rf E 49), (3, .long (r.1)), (5, .long (r.2))] [] μ) ?_ FU (x1, x2, x3, x5, x7) p (k _ rfl)
  clear p k
  rintro ⟨x1, x2, x3, x5, x7⟩ t k1 k2
  dsimp only [sd_X12_faints_62] at t
  have kb : ∀ (y1 : Int32) (y2 : Int32) (y3 : Int64) (y5 : Int64) (y7 : Int32) , bd_X12_faints_62  μ x1 x2 x3 x5 x7 = .inl (y1, y2, y3, y5, y7) → J E G 102 mX12_faints Q 62 [(0, rf E 49), (1, .int y1), (2, .int y2), (3, .long y3), (5, .long y5), (7, .int y7)] [] μ := fun y1 y2 y3 y5 y7  h => k1 (y1, y2, y3, y5, y7) h
  have kx : ∀ (y3 : Int64) (y5 : Int64) , bd_X12_faints_62  μ x1 x2 x3 x5 x7 = .inr (y3, y5) → J E G 102 mX12_faints Q 179 [(0, rf E 49), (3, .long y3), (5, .long y5)] [] μ := fun y3 y5  h => k2 (y3, y5) h
  clear k1 k2
  refine J_iload (dk okX12_faints 34 rfl) 5 rfl ?_
  refine J_iload_n (dk okX12_faints 35 rfl) 2 rfl rfl ?_
  refine J_icmp_gt (tgt := 179) (dk okX12_faints 36 rfl) (by decide) (fun h1 => ?_) (fun h1 => ?_)
  · exact J_sub [0, 3, 4] rfl (kx x3 x5 (by unfold bd_X12_faints_62; first | (simp only [if_pos h1]; done) | (simp only [if_pos h1]; rfl) | rfl))
  · have t := t h1
    refine J_iload (dk okX12_faints 37 rfl) 5 rfl ?_
    refine J_iload_n (dk okX12_faints 38 rfl) 2 rfl rfl ?_
    refine J_iconst (v := (-1)) (dk okX12_faints 39 rfl) (by decide) ?_
    refine J_ixor (dk okX12_faints 40 rfl) ?_
    refine J_iand (dk okX12_faints 41 rfl) ?_
    obtain ⟨t9, t⟩ := t
    have K5 : J E G 102 mX12_faints Q 95 [(0, rf E 49), (1, .int x1), (2, .int x2), (3, .long x3), (5, .long x5), (7, .int x7)] [.int (if (x7 &&& (x2 ^^^ (-1))) = 0 then (if (v_X12_momentOf 52 x7 μ) ≤ 0 then 0 else 1 : Int32) else 0 : Int32)] μ := by
      refine J_istore (ls' := [(8, _), (0, _), (1, _), (2, _), (3, _), (5, _), (7, _)]) (dk okX12_faints 52 rfl) (by decide) rfl ?_
      refine J_iload (dk okX12_faints 53 rfl) 0 rfl ?_
      refine J_callSi (As := [.int (if (x7 &&& (x2 ^^^ (-1))) = 0 then (if (v_X12_momentOf 52 x7 μ) ≤ 0 then 0 else 1 : Int32) else 0 : Int32)]) (dk okX12_faints 54 rfl) skX12_flag lkX12_137 rfl rfl (Nat.le_of_ble_eq_true rfl) (by decide) (con_X12_flag  ⟨_, rfl, ?_⟩)
      refine J_i2l (dk okX12_faints 55 rfl) ?_
      refine J_lstore (ls' := [(9, _), (8, _), (0, _), (1, _), (2, _), (3, _), (5, _), (7, _)]) (dk okX12_faints 56 rfl) (by decide) rfl ?_
      refine J_iconst (v := 0) (dk okX12_faints 57 rfl) (by decide) ?_
      refine J_istore (ls' := [(11, _), (9, _), (8, _), (0, _), (1, _), (2, _), (3, _), (5, _), (7, _)]) (dk okX12_faints 58 rfl) (by decide) rfl ?_
      have s6 := t
      refine J_sub (ls' := [(0, _), (1, _), (2, _), (3, _), (5, _), (7, _), (9, _), (11, _)]) [3, 4, 5, 6, 7, 8, 1, 0] rfl ?_
      refine lw_X12_faints_108  s6 (fun r7 er7 => ?_)
      refine J_lload_n (dk okX12_faints 89 rfl) 3 rfl rfl ?_
      refine J_lload (dk okX12_faints 90 rfl) 6 rfl ?_
      refine J_ladd (dk okX12_faints 91 rfl) ?_
      refine J_lstore_n (ls' := [(3, _), (0, _), (1, _), (2, _), (5, _), (7, _), (9, _)]) (dk okX12_faints 92 rfl) rfl (by decide) rfl ?_
      refine J_iinc (v := ((r7.2.2.2.2.1) + 1)) (ls' := [(7, _), (3, _), (0, _), (1, _), (2, _), (5, _), (9, _)]) (dk okX12_faints 93 rfl) 5 rfl rfl (by decide) rfl ?_
      refine J_goto (tgt := 62) (dk okX12_faints 94 rfl) (by decide) ?_
      exact J_sub [2, 3, 4, 1, 5, 0] rfl (kb (r7.1) (r7.2.1) ((r7.2.2.1) + (r7.2.2.2.2.2)) (r7.2.2.2.1) ((r7.2.2.2.2.1) + 1) (by subst er7; unfold bd_X12_faints_62; first | (simp only [if_neg h1]; done) | (simp only [if_neg h1]; rfl) | rfl))
    have t := t9
    refine J_if_ne (tgt := 94) (dk okX12_faints 42 rfl) (by decide) (fun h2 => ?_) (fun h2 => ?_)
    · refine J_iconst (v := 0) (dk okX12_faints 51 rfl) (by decide) ?_
      refine J_sub (ls' := [(0, _), (1, _), (2, _), (3, _), (5, _), (7, _)]) [0, 1, 2, 3, 4, 5] rfl ?_
      (try simp only [if_neg h2] at K5 ⊢); exact K5
    · have t := t h2
      refine J_aload_n (dk okX12_faints 43 rfl) 0 rfl rfl ?_
      refine J_aload_n (dk okX12_faints 44 rfl) 0 rfl rfl ?_
      refine J_getR (dk okX12_faints 45 rfl) kfX12_32 ds_49 rfl ?_
      refine J_iload (dk okX12_faints 46 rfl) 5 rfl ?_
      have s3 := t
      refine J_callVi (As := [rf E 52, .int x7]) (dk okX12_faints 47 rfl) ds_49 rfl vkX12_momentOf lkX12_134 rfl rfl (Nat.le_of_ble_eq_true rfl) (by decide) (con_X12_momentOf ds_52 s3 ⟨_, rfl, ?_⟩)
      refine J_if_le (tgt := 94) (dk okX12_faints 48 rfl) (by decide) (fun h4 => ?_) (fun h4 => ?_)
      · refine J_iconst (v := 0) (dk okX12_faints 51 rfl) (by decide) ?_
        refine J_sub (ls' := [(0, _), (1, _), (2, _), (3, _), (5, _), (7, _)]) [0, 1, 2, 3, 4, 5] rfl ?_
        (try simp only [if_pos h2, if_pos h4] at K5 ⊢); exact K5
      · refine J_iconst (v := 1) (dk okX12_faints 49 rfl) (by decide) ?_
        refine J_goto (tgt := 95) (dk okX12_faints 50 rfl) (by decide) ?_
        refine J_sub (ls' := [(0, _), (1, _), (2, _), (3, _), (5, _), (7, _)]) [0, 1, 2, 3, 4, 5] rfl ?_
        (try simp only [if_pos h2, if_neg h4] at K5 ⊢); exact K5
/-- VotingFloorModel.faints(I)I -/
noncomputable def v_X12_faints (p0 : Int32) (μ : Mm) : Int32 := (let μ1 : Mm := (upI μ 49 0 0); (if (v_X12_in (Int32.toInt64 p0) 0 10) = 0 then (-1) else (let r4 : Int32 × Int32 × Int64 × Int64 := whl (fun s : Int32 × Int32 × Int64 × Int64 × Int32 => bd_X12_faints_36  μ1 s.1 s.2.1 s.2.2.1 s.2.2.2.1 s.2.2.2.2) (fun _ : Int32 × Int32 × Int64 × Int64 × Int32 => (0, 0, 0, 0)) FU (p0, (v_X12_here 52 μ1), 0, 1, 0); (let r6 : Int64 × Int64 := whl (fun s : Int32 × Int32 × Int64 × Int64 × Int32 => bd_X12_faints_62  μ1 s.1 s.2.1 s.2.2.1 s.2.2.2.1 s.2.2.2.2) (fun _ : Int32 × Int32 × Int64 × Int64 × Int32 => (0, 0)) FU ((r4.1), (r4.2.1), (r4.2.2.1), (r4.2.2.2), 0); (v_X12_entersFraction (r6.1) (r6.2))))))
noncomputable def e_X12_faints (p0 : Int32) (μ : Mm) : Mm := (let μ1 : Mm := (upI μ 49 0 0); (if (v_X12_in (Int32.toInt64 p0) 0 10) = 0 then μ1 else (let r4 : Int32 × Int32 × Int64 × Int64 := whl (fun s : Int32 × Int32 × Int64 × Int64 × Int32 => bd_X12_faints_36  μ1 s.1 s.2.1 s.2.2.1 s.2.2.2.1 s.2.2.2.2) (fun _ : Int32 × Int32 × Int64 × Int64 × Int32 => (0, 0, 0, 0)) FU (p0, (v_X12_here 52 μ1), 0, 1, 0); (let r6 : Int64 × Int64 := whl (fun s : Int32 × Int32 × Int64 × Int64 × Int32 => bd_X12_faints_62  μ1 s.1 s.2.1 s.2.2.1 s.2.2.2.1 s.2.2.2.2) (fun _ : Int32 × Int32 × Int64 × Int64 × Int32 => (0, 0)) FU ((r4.1), (r4.2.1), (r4.2.2.1), (r4.2.2.2), 0); (let μ8 : Mm := (e_X12_entersFraction (r6.1) (r6.2) μ1); μ8)))))
def p_X12_faints (p0 : Int32)  (μ : Mm) : Prop := (∀ μ1 : Mm, μ1 = (upI μ 49 0 0) → (¬ ((v_X12_in (Int32.toInt64 p0) 0 10) = 0) → (whP (fun s : Int32 × Int32 × Int64 × Int64 × Int32 => bd_X12_faints_36  μ1 s.1 s.2.1 s.2.2.1 s.2.2.2.1 s.2.2.2.2) (fun s : Int32 × Int32 × Int64 × Int64 × Int32 => sd_X12_faints_36   μ1 s.1 s.2.1 s.2.2.1 s.2.2.2.1 s.2.2.2.2) FU (p0, (v_X12_here 52 μ1), 0, 1, 0)) ∧ (∀ r4 : Int32 × Int32 × Int64 × Int64, r4 = whl (fun s : Int32 × Int32 × Int64 × Int64 × Int32 => bd_X12_faints_36  μ1 s.1 s.2.1 s.2.2.1 s.2.2.2.1 s.2.2.2.2) (fun _ : Int32 × Int32 × Int64 × Int64 × Int32 => (0, 0, 0, 0)) FU (p0, (v_X12_here 52 μ1), 0, 1, 0) → (whP (fun s : Int32 × Int32 × Int64 × Int64 × Int32 => bd_X12_faints_62  μ1 s.1 s.2.1 s.2.2.1 s.2.2.2.1 s.2.2.2.2) (fun s : Int32 × Int32 × Int64 × Int64 × Int32 => sd_X12_faints_62   μ1 s.1 s.2.1 s.2.2.1 s.2.2.2.1 s.2.2.2.2) FU ((r4.1), (r4.2.1), (r4.2.2.1), (r4.2.2.2), 0)) ∧ (∀ r6 : Int64 × Int64, r6 = whl (fun s : Int32 × Int32 × Int64 × Int64 × Int32 => bd_X12_faints_62  μ1 s.1 s.2.1 s.2.2.1 s.2.2.2.1 s.2.2.2.2) (fun _ : Int32 × Int32 × Int64 × Int64 × Int32 => (0, 0)) FU ((r4.1), (r4.2.1), (r4.2.2.1), (r4.2.2.2), 0) → p_X12_entersFraction (r6.1) (r6.2) μ1))))
set_option maxRecDepth 20000 in
set_option maxHeartbeats 4000000 in
theorem con_X12_faints {E : Ex} {Q : Option Value → Mm → Prop} {p0 : Int32} {μ : Mm} (t : p_X12_faints p0  μ) (k : Q (some (.int (v_X12_faints p0 μ))) (e_X12_faints p0 μ)) : Con E 102 mX12_faints [rf E 49, .int p0] μ Q := by
  refine Con_J (by decide +kernel) (Nat.le_of_ble_eq_true rfl) (fun G => ?_)
  unfold v_X12_faints e_X12_faints at k
  unfold p_X12_faints at t
  refine J_sub (ls' := [(0, rf E 49), (1, .int p0)]) [0, 1] rfl ?_
  refine J_aload_n (dk okX12_faints 0 rfl) 0 rfl rfl ?_
  refine J_iconst (v := 0) (dk okX12_faints 1 rfl) (by decide) ?_
  refine J_put (dk okX12_faints 2 rfl) kpX12_3 ds_49 rfl rfl rfl ?_
  refine J_nm (fun μ1 eμ1 => ?_)
  have t := t μ1 eμ1
  refine J_iload_n (dk okX12_faints 3 rfl) 1 rfl rfl ?_
  refine J_i2l (dk okX12_faints 4 rfl) ?_
  refine J_lconst (v := 0) (dk okX12_faints 5 rfl) (by decide) ?_
  refine J_ldc2 (v := 10) (dk okX12_faints 6 rfl) kcX12_428 ?_
  refine J_callSi (As := [.long (Int32.toInt64 p0), .long 0, .long 10]) (dk okX12_faints 7 rfl) skX12_in lkX12_114 rfl rfl (Nat.le_of_ble_eq_true rfl) (by decide) (con_X12_in  ⟨_, rfl, ?_⟩)
  refine J_if_ne (tgt := 19) (dk okX12_faints 8 rfl) (by decide) (fun h2 => ?_) (fun h2 => ?_)
  · have t := t h2
    refine J_aload_n (dk okX12_faints 11 rfl) 0 rfl rfl ?_
    refine J_aload_n (dk okX12_faints 12 rfl) 0 rfl rfl ?_
    refine J_getR (dk okX12_faints 13 rfl) kfX12_32 ds_49 rfl ?_
    refine J_callVi (As := [rf E 52]) (dk okX12_faints 14 rfl) ds_49 rfl vkX12_here lkX12_122 rfl rfl (Nat.le_of_ble_eq_true rfl) (by decide) (con_X12_here ds_52 ⟨_, rfl, ?_⟩)
    refine J_istore_n (ls' := [(2, _), (0, _), (1, _)]) (dk okX12_faints 15 rfl) rfl (by decide) rfl ?_
    refine J_lconst (v := 0) (dk okX12_faints 16 rfl) (by decide) ?_
    refine J_lstore_n (ls' := [(3, _), (2, _), (0, _), (1, _)]) (dk okX12_faints 17 rfl) rfl (by decide) rfl ?_
    refine J_lconst (v := 1) (dk okX12_faints 18 rfl) (by decide) ?_
    refine J_lstore (ls' := [(5, _), (3, _), (2, _), (0, _), (1, _)]) (dk okX12_faints 19 rfl) (by decide) rfl ?_
    refine J_iconst (v := 0) (dk okX12_faints 20 rfl) (by decide) ?_
    refine J_istore (ls' := [(7, _), (5, _), (3, _), (2, _), (0, _), (1, _)]) (dk okX12_faints 21 rfl) (by decide) rfl ?_
    obtain ⟨s3, t⟩ := t
    refine J_sub (ls' := [(0, _), (1, _), (2, _), (3, _), (5, _), (7, _)]) [4, 5, 3, 2, 1, 0] rfl ?_
    refine lw_X12_faints_36  s3 (fun r4 er4 => ?_)
    have t := t r4 er4
    refine J_iconst (v := 0) (dk okX12_faints 32 rfl) (by decide) ?_
    refine J_istore (ls' := [(7, _), (0, _), (1, _), (2, _), (3, _), (5, _)]) (dk okX12_faints 33 rfl) (by decide) rfl ?_
    obtain ⟨s5, t⟩ := t
    refine J_sub (ls' := [(0, _), (1, _), (2, _), (3, _), (5, _), (7, _)]) [1, 2, 3, 4, 5, 0] rfl ?_
    refine lw_X12_faints_62  s5 (fun r6 er6 => ?_)
    have t := t r6 er6
    refine J_aload_n (dk okX12_faints 95 rfl) 0 rfl rfl ?_
    refine J_lload_n (dk okX12_faints 96 rfl) 1 rfl rfl ?_
    refine J_lload (dk okX12_faints 97 rfl) 2 rfl ?_
    have s7 := t
    refine J_callVi (As := [.long (r6.1), .long (r6.2)]) (dk okX12_faints 98 rfl) ds_49 rfl vkX12_entersFraction lkX12_380 rfl rfl (Nat.le_of_ble_eq_true rfl) (by decide) (con_X12_entersFraction s7 ⟨_, rfl, ?_⟩)
    refine J_nm (fun μ8 eμ8 => ?_)
    subst eμ8 er6 er4 eμ1
    (try simp only [if_neg h2] at k ⊢)
    exact J_iret (dk okX12_faints 99 rfl) rfl k
  · refine J_iconst (v := (-1)) (dk okX12_faints 9 rfl) (by decide) ?_
    subst eμ1
    (try simp only [if_pos h2] at k ⊢)
    exact J_iret (dk okX12_faints 10 rfl) rfl k
noncomputable def bd_X12_law_43  (x2 : Int32) (x3 : Int32) (x4 : Int32) (μ : Mm) : (Int32 × Int32 × Int32 × Mm) ⊕ (Int32 × Int32 × Mm) := (if (μ.1 49 19) ≤ x4 then .inr (x2, x3, μ) else (let μ4 : Mm := (upI μ 74 (Int32.toNatClampNeg x4) (μ.1 57 (Int32.toNatClampNeg x4))); .inl (x2, x3, (x4 + 1), μ4)))
def sd_X12_law_43   (x2 : Int32) (x3 : Int32) (x4 : Int32) (μ : Mm) : Prop := (¬ ((μ.1 49 19) ≤ x4) → (vp_in x4 80) ∧ vp_in x4 80)
set_option maxRecDepth 20000 in
set_option maxHeartbeats 4000000 in
theorem lw_X12_law_43 {E : Ex} {G : Gx} {Q : Option Value → Mm → Prop} {x2 : Int32} {x3 : Int32} {x4 : Int32} {μ : Mm}  (p : whP (fun s : Int32 × Int32 × Int32 × Mm => bd_X12_law_43  s.1 s.2.1 s.2.2.1 s.2.2.2) (fun s : Int32 × Int32 × Int32 × Mm => sd_X12_law_43   s.1 s.2.1 s.2.2.1 s.2.2.2) FU (x2, x3, x4, μ)) (k : ∀ r : Int32 × Int32 × Mm, r = whl (fun s : Int32 × Int32 × Int32 × Mm => bd_X12_law_43  s.1 s.2.1 s.2.2.1 s.2.2.2) (fun s : Int32 × Int32 × Int32 × Mm => (0, 0, s.2.2.2)) FU (x2, x3, x4, μ) → J E G 122 mX12_law Q 72 [(0, rf E 49), (2, .int (r.1)), (3, .int (r.2.1))] [] (r.2.2)) : J E G 122 mX12_law Q 43 [(0, rf E 49), (2, .int x2), (3, .int x3), (4, .int x4)] [] μ := by
  refine J_whl (f := (fun s : Int32 × Int32 × Int32 × Mm => bd_X12_law_43  s.1 s.2.1 s.2.2.1 s.2.2.2)) (dd := (fun s : Int32 × Int32 × Int32 × Mm => (0, 0, s.2.2.2))) (sd := (fun s : Int32 × Int32 × Int32 × Mm => sd_X12_law_43   s.1 s.2.1 s.2.2.1 s.2.2.2)) (P := fun s : Int32 × Int32 × Int32 × Mm => J E G 122 mX12_law Q 43 [(0, rf E 49), (2, .int (s.1)), (3, .int (s.2.1)), (4, .int (s.2.2.1))] [] (s.2.2.2)) (R := fun r : Int32 × Int32 × Mm => J E G 122 mX12_law Q 72 [(0, rf E 49), (2, .int (r.1)), (3, .int (r.2.1))] [] (r.2.2)) ?_ FU (x2, x3, x4, μ) p (k _ rfl)
  clear p k
  rintro ⟨x2, x3, x4, μ⟩ t k1 k2
  dsimp only [sd_X12_law_43] at t
  have kb : ∀ (y2 : Int32) (y3 : Int32) (y4 : Int32) (μ9 : Mm), bd_X12_law_43  x2 x3 x4 μ = .inl (y2, y3, y4, μ9) → J E G 122 mX12_law Q 43 [(0, rf E 49), (2, .int y2), (3, .int y3), (4, .int y4)] [] μ9 := fun y2 y3 y4 μ9 h => k1 (y2, y3, y4, μ9) h
  have kx : ∀ (y2 : Int32) (y3 : Int32) (μ9 : Mm), bd_X12_law_43  x2 x3 x4 μ = .inr (y2, y3, μ9) → J E G 122 mX12_law Q 72 [(0, rf E 49), (2, .int y2), (3, .int y3)] [] μ9 := fun y2 y3 μ9 h => k2 (y2, y3, μ9) h
  clear k1 k2
  refine J_iload (dk okX12_law 26 rfl) 3 rfl ?_
  refine J_aload_n (dk okX12_law 27 rfl) 0 rfl rfl ?_
  refine J_getI (dk okX12_law 28 rfl) kfX12_240 ds_49 rfl ?_
  refine J_icmp_ge (tgt := 72) (dk okX12_law 29 rfl) (by decide) (fun h1 => ?_) (fun h1 => ?_)
  · exact J_sub [0, 1, 2] rfl (kx x2 x3 μ (by unfold bd_X12_law_43; first | (simp only [if_pos h1]; done) | (simp only [if_pos h1]; rfl) | rfl))
  · have t := t h1
    refine J_aload_n (dk okX12_law 30 rfl) 0 rfl rfl ?_
    refine J_getR (dk okX12_law 31 rfl) kfX12_98 ds_49 rfl ?_
    refine J_iload (dk okX12_law 32 rfl) 3 rfl ?_
    refine J_aload_n (dk okX12_law 33 rfl) 0 rfl rfl ?_
    refine J_getR (dk okX12_law 34 rfl) kfX12_47 ds_49 rfl ?_
    refine J_iload (dk okX12_law 35 rfl) 3 rfl ?_
    obtain ⟨s2, t⟩ := t
    refine J_iald (dk okX12_law 36 rfl) ds_57 s2 ?_
    have s3 := t
    refine J_iast (dk okX12_law 37 rfl) ds_74 s3 ?_
    refine J_nm (fun μ4 eμ4 => ?_)
    refine J_iinc (v := (x4 + 1)) (ls' := [(4, _), (0, _), (2, _), (3, _)]) (dk okX12_law 38 rfl) 3 rfl rfl (by decide) rfl ?_
    refine J_goto (tgt := 43) (dk okX12_law 39 rfl) (by decide) ?_
    exact J_sub [1, 2, 3, 0] rfl (kb x2 x3 (x4 + 1) μ4 (by subst eμ4; unfold bd_X12_law_43; first | (simp only [if_neg h1]; done) | (simp only [if_neg h1]; rfl) | rfl))
/-- VotingFloorModel.law()I -/
noncomputable def v_X12_law  (μ : Mm) : Int32 := (let μ1 : Mm := (upI μ 49 0 0); (let μ3 : Mm := (e_X12_readsRule  μ1); (if 0 ≤ (v_X12_readsRule  μ1) then (let μ6 : Mm := (e_X12_goesToNoon  μ3); (let r9 : Int32 × Int32 × Mm := whl (fun s : Int32 × Int32 × Int32 × Mm => bd_X12_law_43  s.1 s.2.1 s.2.2.1 s.2.2.2) (fun s : Int32 × Int32 × Int32 × Mm => (0, 0, s.2.2.2)) FU ((v_X12_moment 53 μ6), (μ6.1 49 19), 0, μ6); (let μ11 : Mm := (e_X12_laysCode 58 ((r9.2.2).1 49 20) (r9.2.2)); (let μ13 : Mm := (e_X12_goesToNoon  μ11); (let μ15 : Mm := (e_X12_laysCode 74 (r9.2.1) μ13); ((5000 + (v_X12_moment 53 μ15)) - (r9.1))))))) else (((v_X12_readsRule  μ1) + 1) - 10000))))
noncomputable def e_X12_law  (μ : Mm) : Mm := (let μ1 : Mm := (upI μ 49 0 0); (let μ3 : Mm := (e_X12_readsRule  μ1); (if 0 ≤ (v_X12_readsRule  μ1) then (let μ6 : Mm := (e_X12_goesToNoon  μ3); (let r9 : Int32 × Int32 × Mm := whl (fun s : Int32 × Int32 × Int32 × Mm => bd_X12_law_43  s.1 s.2.1 s.2.2.1 s.2.2.2) (fun s : Int32 × Int32 × Int32 × Mm => (0, 0, s.2.2.2)) FU ((v_X12_moment 53 μ6), (μ6.1 49 19), 0, μ6); (let μ11 : Mm := (e_X12_laysCode 58 ((r9.2.2).1 49 20) (r9.2.2)); (let μ13 : Mm := (e_X12_goesToNoon  μ11); (let μ15 : Mm := (e_X12_laysCode 74 (r9.2.1) μ13); (let μ17 : Mm := (upI μ15 49 1 0); (let μ19 : Mm := (e_X12_enters (Int32.toInt64 (1 + (v_X12_side (v_X12_moment 53 μ15)))) μ17); (let μ21 : Mm := (e_X12_enters (Int32.toInt64 (1 + (v_X12_side (r9.1)))) μ19); (let μ23 : Mm := (e_X12_entersPlaces  μ21); μ23))))))))) else μ3)))
def p_X12_law   (μ : Mm) : Prop := (∀ μ1 : Mm, μ1 = (upI μ 49 0 0) → (p_X12_readsRule μ1) ∧ (∀ μ3 : Mm, μ3 = (e_X12_readsRule  μ1) → (0 ≤ (v_X12_readsRule  μ1) → (p_X12_goesToNoon μ3) ∧ (∀ μ6 : Mm, μ6 = (e_X12_goesToNoon  μ3) → (p_X12_moment 53 μ6) ∧ (whP (fun s : Int32 × Int32 × Int32 × Mm => bd_X12_law_43  s.1 s.2.1 s.2.2.1 s.2.2.2) (fun s : Int32 × Int32 × Int32 × Mm => sd_X12_law_43   s.1 s.2.1 s.2.2.1 s.2.2.2) FU ((v_X12_moment 53 μ6), (μ6.1 49 19), 0, μ6)) ∧ (∀ r9 : Int32 × Int32 × Mm, r9 = whl (fun s : Int32 × Int32 × Int32 × Mm => bd_X12_law_43  s.1 s.2.1 s.2.2.1 s.2.2.2) (fun s : Int32 × Int32 × Int32 × Mm => (0, 0, s.2.2.2)) FU ((v_X12_moment 53 μ6), (μ6.1 49 19), 0, μ6) → (p_X12_laysCode 58 ((r9.2.2).1 49 20) (r9.2.2)) ∧ (∀ μ11 : Mm, μ11 = (e_X12_laysCode 58 ((r9.2.2).1 49 20) (r9.2.2)) → (p_X12_goesToNoon μ11) ∧ (∀ μ13 : Mm, μ13 = (e_X12_goesToNoon  μ11) → (p_X12_laysCode 74 (r9.2.1) μ13) ∧ (∀ μ15 : Mm, μ15 = (e_X12_laysCode 74 (r9.2.1) μ13) → (p_X12_moment 53 μ15) ∧ (∀ μ17 : Mm, μ17 = (upI μ15 49 1 0) → (p_X12_enters (Int32.toInt64 (1 + (v_X12_side (v_X12_moment 53 μ15)))) μ17) ∧ (∀ μ19 : Mm, μ19 = (e_X12_enters (Int32.toInt64 (1 + (v_X12_side (v_X12_moment 53 μ15)))) μ17) → (p_X12_enters (Int32.toInt64 (1 + (v_X12_side (r9.1)))) μ19) ∧ (∀ μ21 : Mm, μ21 = (e_X12_enters (Int32.toInt64 (1 + (v_X12_side (r9.1)))) μ19) → p_X12_entersPlaces μ21)))))))))))
set_option maxRecDepth 20000 in
set_option maxHeartbeats 4000000 in
theorem con_X12_law {E : Ex} {Q : Option Value → Mm → Prop} {μ : Mm} (t : p_X12_law   μ) (k : Q (some (.int (v_X12_law  μ))) (e_X12_law  μ)) : Con E 122 mX12_law [rf E 49] μ Q := by
  refine Con_J (by decide +kernel) (Nat.le_of_ble_eq_true rfl) (fun G => ?_)
  unfold v_X12_law e_X12_law at k
  unfold p_X12_law at t
  refine J_sub (ls' := [(0, rf E 49)]) [0] rfl ?_
  refine J_aload_n (dk okX12_law 0 rfl) 0 rfl rfl ?_
  refine J_iconst (v := 0) (dk okX12_law 1 rfl) (by decide) ?_
  refine J_put (dk okX12_law 2 rfl) kpX12_3 ds_49 rfl rfl rfl ?_
  refine J_nm (fun μ1 eμ1 => ?_)
  have t := t μ1 eμ1
  refine J_aload_n (dk okX12_law 3 rfl) 0 rfl rfl ?_
  obtain ⟨s2, t⟩ := t
  refine J_callVi (As := []) (dk okX12_law 4 rfl) ds_49 rfl vkX12_readsRule lkX12_243 rfl rfl (Nat.le_of_ble_eq_true rfl) (by decide) (con_X12_readsRule s2 ⟨_, rfl, ?_⟩)
  refine J_nm (fun μ3 eμ3 => ?_)
  have t := t μ3 eμ3
  refine J_istore_n (ls' := [(1, _), (0, _)]) (dk okX12_law 5 rfl) rfl (by decide) rfl ?_
  refine J_iload_n (dk okX12_law 6 rfl) 0 rfl rfl ?_
  refine J_if_ge (tgt := 22) (dk okX12_law 7 rfl) (by decide) (fun h4 => ?_) (fun h4 => ?_)
  · have t := t h4
    refine J_aload_n (dk okX12_law 14 rfl) 1 rfl rfl ?_
    obtain ⟨s5, t⟩ := t
    refine J_callVv (As := []) (dk okX12_law 15 rfl) ds_49 rfl vkX12_goesToNoon lkX12_349 rfl rfl (Nat.le_of_ble_eq_true rfl) (by decide) (con_X12_goesToNoon s5 ⟨rfl, ?_⟩)
    refine J_nm (fun μ6 eμ6 => ?_)
    have t := t μ6 eμ6
    refine J_aload_n (dk okX12_law 16 rfl) 1 rfl rfl ?_
    refine J_aload_n (dk okX12_law 17 rfl) 1 rfl rfl ?_
    refine J_getR (dk okX12_law 18 rfl) kfX12_35 ds_49 rfl ?_
    obtain ⟨s7, t⟩ := t
    refine J_callVi (As := [rf E 53]) (dk okX12_law 19 rfl) ds_49 rfl vkX12_moment lkX12_275 rfl rfl (Nat.le_of_ble_eq_true rfl) (by decide) (con_X12_moment ds_53 s7 ⟨_, rfl, ?_⟩)
    refine J_istore_n (ls' := [(2, _), (1, _), (0, _)]) (dk okX12_law 20 rfl) rfl (by decide) rfl ?_
    refine J_aload_n (dk okX12_law 21 rfl) 2 rfl rfl ?_
    refine J_getI (dk okX12_law 22 rfl) kfX12_240 ds_49 rfl ?_
    refine J_istore_n (ls' := [(3, _), (2, _), (1, _), (0, _)]) (dk okX12_law 23 rfl) rfl (by decide) rfl ?_
    refine J_iconst (v := 0) (dk okX12_law 24 rfl) (by decide) ?_
    refine J_istore (ls' := [(4, _), (3, _), (2, _), (1, _), (0, _)]) (dk okX12_law 25 rfl) (by decide) rfl ?_
    obtain ⟨s8, t⟩ := t
    refine J_sub (ls' := [(0, _), (2, _), (3, _), (4, _)]) [4, 2, 1, 0] rfl ?_
    refine lw_X12_law_43  s8 (fun r9 er9 => ?_)
    have t := t r9 er9
    refine J_aload_n (dk okX12_law 40 rfl) 0 rfl rfl ?_
    refine J_aload_n (dk okX12_law 41 rfl) 0 rfl rfl ?_
    refine J_getR (dk okX12_law 42 rfl) kfX12_50 ds_49 rfl ?_
    refine J_aload_n (dk okX12_law 43 rfl) 0 rfl rfl ?_
    refine J_getI (dk okX12_law 44 rfl) kfX12_219 ds_49 rfl ?_
    obtain ⟨s10, t⟩ := t
    refine J_callVv (As := [rf E 58, .int ((r9.2.2).1 49 20)]) (dk okX12_law 45 rfl) ds_49 rfl vkX12_laysCode lkX12_246 rfl rfl (Nat.le_of_ble_eq_true rfl) (by decide) (con_X12_laysCode ds_58 s10 ⟨rfl, ?_⟩)
    refine J_nm (fun μ11 eμ11 => ?_)
    have t := t μ11 eμ11
    refine J_aload_n (dk okX12_law 46 rfl) 0 rfl rfl ?_
    obtain ⟨s12, t⟩ := t
    refine J_callVv (As := []) (dk okX12_law 47 rfl) ds_49 rfl vkX12_goesToNoon lkX12_349 rfl rfl (Nat.le_of_ble_eq_true rfl) (by decide) (con_X12_goesToNoon s12 ⟨rfl, ?_⟩)
    refine J_nm (fun μ13 eμ13 => ?_)
    have t := t μ13 eμ13
    refine J_aload_n (dk okX12_law 48 rfl) 0 rfl rfl ?_
    refine J_aload_n (dk okX12_law 49 rfl) 0 rfl rfl ?_
    refine J_getR (dk okX12_law 50 rfl) kfX12_98 ds_49 rfl ?_
    refine J_iload_n (dk okX12_law 51 rfl) 2 rfl rfl ?_
    obtain ⟨s14, t⟩ := t
    refine J_callVv (As := [rf E 74, .int (r9.2.1)]) (dk okX12_law 52 rfl) ds_49 rfl vkX12_laysCode lkX12_246 rfl rfl (Nat.le_of_ble_eq_true rfl) (by decide) (con_X12_laysCode ds_74 s14 ⟨rfl, ?_⟩)
    refine J_nm (fun μ15 eμ15 => ?_)
    have t := t μ15 eμ15
    refine J_aload_n (dk okX12_law 53 rfl) 0 rfl rfl ?_
    refine J_aload_n (dk okX12_law 54 rfl) 0 rfl rfl ?_
    refine J_getR (dk okX12_law 55 rfl) kfX12_35 ds_49 rfl ?_
    obtain ⟨s16, t⟩ := t
    refine J_callVi (As := [rf E 53]) (dk okX12_law 56 rfl) ds_49 rfl vkX12_moment lkX12_275 rfl rfl (Nat.le_of_ble_eq_true rfl) (by decide) (con_X12_moment ds_53 s16 ⟨_, rfl, ?_⟩)
    refine J_istore (ls' := [(4, _), (0, _), (2, _), (3, _)]) (dk okX12_law 57 rfl) (by decide) rfl ?_
    refine J_aload_n (dk okX12_law 58 rfl) 1 rfl rfl ?_
    refine J_iconst (v := 0) (dk okX12_law 59 rfl) (by decide) ?_
    refine J_put (dk okX12_law 60 rfl) kpX12_15 ds_49 rfl rfl rfl ?_
    refine J_nm (fun μ17 eμ17 => ?_)
    have t := t μ17 eμ17
    refine J_aload_n (dk okX12_law 61 rfl) 1 rfl rfl ?_
    refine J_iconst (v := 1) (dk okX12_law 62 rfl) (by decide) ?_
    refine J_iload (dk okX12_law 63 rfl) 0 rfl ?_
    refine J_callSi (As := [.int (v_X12_moment 53 μ15)]) (dk okX12_law 64 rfl) skX12_side lkX12_260 rfl rfl (Nat.le_of_ble_eq_true rfl) (by decide) (con_X12_side  ⟨_, rfl, ?_⟩)
    refine J_iadd (dk okX12_law 65 rfl) ?_
    refine J_i2l (dk okX12_law 66 rfl) ?_
    obtain ⟨s18, t⟩ := t
    refine J_callVv (As := [.long (Int32.toInt64 (1 + (v_X12_side (v_X12_moment 53 μ15))))]) (dk okX12_law 67 rfl) ds_49 rfl vkX12_enters lkX12_18 rfl rfl (Nat.le_of_ble_eq_true rfl) (by decide) (con_X12_enters s18 ⟨rfl, ?_⟩)
    refine J_nm (fun μ19 eμ19 => ?_)
    have t := t μ19 eμ19
    refine J_aload_n (dk okX12_law 68 rfl) 1 rfl rfl ?_
    refine J_iconst (v := 1) (dk okX12_law 69 rfl) (by decide) ?_
    refine J_iload_n (dk okX12_law 70 rfl) 2 rfl rfl ?_
    refine J_callSi (As := [.int (r9.1)]) (dk okX12_law 71 rfl) skX12_side lkX12_260 rfl rfl (Nat.le_of_ble_eq_true rfl) (by decide) (con_X12_side  ⟨_, rfl, ?_⟩)
    refine J_iadd (dk okX12_law 72 rfl) ?_
    refine J_i2l (dk okX12_law 73 rfl) ?_
    obtain ⟨s20, t⟩ := t
    refine J_callVv (As := [.long (Int32.toInt64 (1 + (v_X12_side (r9.1))))]) (dk okX12_law 74 rfl) ds_49 rfl vkX12_enters lkX12_18 rfl rfl (Nat.le_of_ble_eq_true rfl) (by decide) (con_X12_enters s20 ⟨rfl, ?_⟩)
    refine J_nm (fun μ21 eμ21 => ?_)
    have t := t μ21 eμ21
    refine J_aload_n (dk okX12_law 75 rfl) 1 rfl rfl ?_
    have s22 := t
    refine J_callVv (As := []) (dk okX12_law 76 rfl) ds_49 rfl vkX12_entersPlaces lkX12_352 rfl rfl (Nat.le_of_ble_eq_true rfl) (by decide) (con_X12_entersPlaces s22 ⟨rfl, ?_⟩)
    refine J_nm (fun μ23 eμ23 => ?_)
    refine J_sipush (v := 5000) (dk okX12_law 77 rfl) (by decide) ?_
    refine J_iload (dk okX12_law 78 rfl) 0 rfl ?_
    refine J_iadd (dk okX12_law 79 rfl) ?_
    refine J_iload_n (dk okX12_law 80 rfl) 2 rfl rfl ?_
    refine J_isub (dk okX12_law 81 rfl) ?_
    subst eμ23 eμ21 eμ19 eμ17 eμ15 eμ13 eμ11 er9 eμ6 eμ3 eμ1
    (try simp only [if_pos h4] at k ⊢)
    exact J_iret (dk okX12_law 82 rfl) rfl k
  · refine J_iload_n (dk okX12_law 8 rfl) 0 rfl rfl ?_
    refine J_iconst (v := 1) (dk okX12_law 9 rfl) (by decide) ?_
    refine J_iadd (dk okX12_law 10 rfl) ?_
    refine J_sipush (v := 10000) (dk okX12_law 11 rfl) (by decide) ?_
    refine J_isub (dk okX12_law 12 rfl) ?_
    subst eμ3 eμ1
    (try simp only [if_neg h4] at k ⊢)
    exact J_iret (dk okX12_law 13 rfl) rfl k
/-- VotingFloorModel.power(I)I -/
noncomputable def v_X12_power (p0 : Int32) (μ : Mm) : Int32 := (let μ1 : Mm := (upI μ 49 0 0); (if (v_X12_isOne p0 μ1) = 0 then (-1) else (if (v_X12_has (μ1.1 52 (Int32.toNatClampNeg 21)) p0) = 0 then (v_X12_entersFraction (Int32.toInt64 (v_X12_decidedBy p0 μ1)) (Int32.toInt64 (1 <<< (((v_J6_bitCount_0f7a4 (v_X12_here 52 μ1)) - 1) &&& 31)))) else (-2))))
noncomputable def e_X12_power (p0 : Int32) (μ : Mm) : Mm := (let μ1 : Mm := (upI μ 49 0 0); (if (v_X12_isOne p0 μ1) = 0 then μ1 else (if (v_X12_has (μ1.1 52 (Int32.toNatClampNeg 21)) p0) = 0 then (let μ6 : Mm := (e_X12_entersFraction (Int32.toInt64 (v_X12_decidedBy p0 μ1)) (Int32.toInt64 (1 <<< (((v_J6_bitCount_0f7a4 (v_X12_here 52 μ1)) - 1) &&& 31))) μ1); μ6) else μ1)))
def p_X12_power (p0 : Int32)  (μ : Mm) : Prop := (∀ μ1 : Mm, μ1 = (upI μ 49 0 0) → (¬ ((v_X12_isOne p0 μ1) = 0) → ((v_X12_has (μ1.1 52 (Int32.toNatClampNeg 21)) p0) = 0 → (p_X12_decidedBy p0 μ1) ∧ p_X12_entersFraction (Int32.toInt64 (v_X12_decidedBy p0 μ1)) (Int32.toInt64 (1 <<< (((v_J6_bitCount_0f7a4 (v_X12_here 52 μ1)) - 1) &&& 31))) μ1)))
set_option maxRecDepth 20000 in
set_option maxHeartbeats 4000000 in
theorem con_X12_power {E : Ex} {Q : Option Value → Mm → Prop} {p0 : Int32} {μ : Mm} (t : p_X12_power p0  μ) (k : Q (some (.int (v_X12_power p0 μ))) (e_X12_power p0 μ)) : Con E 102 mX12_power [rf E 49, .int p0] μ Q := by
  refine Con_J (by decide +kernel) (Nat.le_of_ble_eq_true rfl) (fun G => ?_)
  unfold v_X12_power e_X12_power at k
  unfold p_X12_power at t
  refine J_sub (ls' := [(0, rf E 49), (1, .int p0)]) [0, 1] rfl ?_
  refine J_aload_n (dk okX12_power 0 rfl) 0 rfl rfl ?_
  refine J_iconst (v := 0) (dk okX12_power 1 rfl) (by decide) ?_
  refine J_put (dk okX12_power 2 rfl) kpX12_3 ds_49 rfl rfl rfl ?_
  refine J_nm (fun μ1 eμ1 => ?_)
  have t := t μ1 eμ1
  refine J_aload_n (dk okX12_power 3 rfl) 0 rfl rfl ?_
  refine J_iload_n (dk okX12_power 4 rfl) 1 rfl rfl ?_
  refine J_callVi (As := [.int p0]) (dk okX12_power 5 rfl) ds_49 rfl vkX12_isOne lkX12_267 rfl rfl (Nat.le_of_ble_eq_true rfl) (by decide) (con_X12_isOne  ⟨_, rfl, ?_⟩)
  refine J_if_ne (tgt := 15) (dk okX12_power 6 rfl) (by decide) (fun h2 => ?_) (fun h2 => ?_)
  · have t := t h2
    refine J_aload_n (dk okX12_power 9 rfl) 0 rfl rfl ?_
    refine J_getR (dk okX12_power 10 rfl) kfX12_32 ds_49 rfl ?_
    refine J_bipush (v := 21) (dk okX12_power 11 rfl) (by decide) ?_
    refine J_iald (dk okX12_power 12 rfl) ds_52 (by unfold vp_in; decide) ?_
    refine J_iload_n (dk okX12_power 13 rfl) 1 rfl rfl ?_
    refine J_callSi (As := [.int (μ1.1 52 (Int32.toNatClampNeg 21)), .int p0]) (dk okX12_power 14 rfl) skX12_has lkX12_126 rfl rfl (Nat.le_of_ble_eq_true rfl) (by decide) (con_X12_has  ⟨_, rfl, ?_⟩)
    refine J_if_eq (tgt := 32) (dk okX12_power 15 rfl) (by decide) (fun h3 => ?_) (fun h3 => ?_)
    · have t := t h3
      refine J_aload_n (dk okX12_power 18 rfl) 0 rfl rfl ?_
      refine J_aload_n (dk okX12_power 19 rfl) 0 rfl rfl ?_
      refine J_iload_n (dk okX12_power 20 rfl) 1 rfl rfl ?_
      obtain ⟨s4, t⟩ := t
      refine J_callVi (As := [.int p0]) (dk okX12_power 21 rfl) ds_49 rfl vkX12_decidedBy lkX12_377 rfl rfl (Nat.le_of_ble_eq_true rfl) (by decide) (con_X12_decidedBy s4 ⟨_, rfl, ?_⟩)
      refine J_i2l (dk okX12_power 22 rfl) ?_
      refine J_iconst (v := 1) (dk okX12_power 23 rfl) (by decide) ?_
      refine J_aload_n (dk okX12_power 24 rfl) 0 rfl rfl ?_
      refine J_aload_n (dk okX12_power 25 rfl) 0 rfl rfl ?_
      refine J_getR (dk okX12_power 26 rfl) kfX12_32 ds_49 rfl ?_
      refine J_callVi (As := [rf E 52]) (dk okX12_power 27 rfl) ds_49 rfl vkX12_here lkX12_122 rfl rfl (Nat.le_of_ble_eq_true rfl) (by decide) (con_X12_here ds_52 ⟨_, rfl, ?_⟩)
      refine J_callSi (As := [.int (v_X12_here 52 μ1)]) (dk okX12_power 28 rfl) skJ6_bitCount_0f7a4 lkX12_299 rfl rfl (Nat.le_of_ble_eq_true rfl) (by decide) (con_J6_bitCount_0f7a4  ⟨_, rfl, ?_⟩)
      refine J_iconst (v := 1) (dk okX12_power 29 rfl) (by decide) ?_
      refine J_isub (dk okX12_power 30 rfl) ?_
      refine J_ishl (dk okX12_power 31 rfl) ?_
      refine J_i2l (dk okX12_power 32 rfl) ?_
      have s5 := t
      refine J_callVi (As := [.long (Int32.toInt64 (v_X12_decidedBy p0 μ1)), .long (Int32.toInt64 (1 <<< (((v_J6_bitCount_0f7a4 (v_X12_here 52 μ1)) - 1) &&& 31)))]) (dk okX12_power 33 rfl) ds_49 rfl vkX12_entersFraction lkX12_380 rfl rfl (Nat.le_of_ble_eq_true rfl) (by decide) (con_X12_entersFraction s5 ⟨_, rfl, ?_⟩)
      refine J_nm (fun μ6 eμ6 => ?_)
      subst eμ6 eμ1
      (try simp only [if_neg h2, if_pos h3] at k ⊢)
      exact J_iret (dk okX12_power 34 rfl) rfl k
    · refine J_bipush (v := (-2)) (dk okX12_power 16 rfl) (by decide) ?_
      subst eμ1
      (try simp only [if_neg h2, if_neg h3] at k ⊢)
      exact J_iret (dk okX12_power 17 rfl) rfl k
  · refine J_iconst (v := (-1)) (dk okX12_power 7 rfl) (by decide) ?_
    subst eμ1
    (try simp only [if_pos h2] at k ⊢)
    exact J_iret (dk okX12_power 8 rfl) rfl k
/-- VotingFloorModel.rule()I -/
noncomputable def v_X12_rule  (μ : Mm) : Int32 := (let μ1 : Mm := (upI μ 49 0 0); (v_X12_readsRule  μ1))
noncomputable def e_X12_rule  (μ : Mm) : Mm := (let μ1 : Mm := (upI μ 49 0 0); (let μ3 : Mm := (e_X12_readsRule  μ1); (let μ7 : Mm := (if (v_X12_readsRule  μ1) = 0 then ((e_X12_laysCode 58 (μ3.1 49 20) μ3)) else μ3 : Mm); μ7)))
def p_X12_rule   (μ : Mm) : Prop := (∀ μ1 : Mm, μ1 = (upI μ 49 0 0) → (p_X12_readsRule μ1) ∧ (∀ μ3 : Mm, μ3 = (e_X12_readsRule  μ1) → ((v_X12_readsRule  μ1) = 0 → p_X12_laysCode 58 (μ3.1 49 20) μ3)))
set_option maxRecDepth 20000 in
set_option maxHeartbeats 4000000 in
theorem con_X12_rule {E : Ex} {Q : Option Value → Mm → Prop} {μ : Mm} (t : p_X12_rule   μ) (k : Q (some (.int (v_X12_rule  μ))) (e_X12_rule  μ)) : Con E 122 mX12_rule [rf E 49] μ Q := by
  refine Con_J (by decide +kernel) (Nat.le_of_ble_eq_true rfl) (fun G => ?_)
  unfold v_X12_rule e_X12_rule at k
  unfold p_X12_rule at t
  refine J_sub (ls' := [(0, rf E 49)]) [0] rfl ?_
  refine J_aload_n (dk okX12_rule 0 rfl) 0 rfl rfl ?_
  refine J_iconst (v := 0) (dk okX12_rule 1 rfl) (by decide) ?_
  refine J_put (dk okX12_rule 2 rfl) kpX12_3 ds_49 rfl rfl rfl ?_
  refine J_nm (fun μ1 eμ1 => ?_)
  have t := t μ1 eμ1
  refine J_aload_n (dk okX12_rule 3 rfl) 0 rfl rfl ?_
  obtain ⟨s2, t⟩ := t
  refine J_callVi (As := []) (dk okX12_rule 4 rfl) ds_49 rfl vkX12_readsRule lkX12_243 rfl rfl (Nat.le_of_ble_eq_true rfl) (by decide) (con_X12_readsRule s2 ⟨_, rfl, ?_⟩)
  refine J_nm (fun μ3 eμ3 => ?_)
  have t := t μ3 eμ3
  refine J_istore_n (ls' := [(1, _), (0, _)]) (dk okX12_rule 5 rfl) rfl (by decide) rfl ?_
  refine J_iload_n (dk okX12_rule 6 rfl) 0 rfl rfl ?_
  have K8 : J E G 122 mX12_rule Q 26 [(1, .int (v_X12_readsRule  μ1))] [] (if (v_X12_readsRule  μ1) = 0 then ((e_X12_laysCode 58 (μ3.1 49 20) μ3)) else μ3 : Mm) := by
    refine J_nm (fun μ7 eμ7 => ?_)
    refine J_iload_n (dk okX12_rule 14 rfl) 0 rfl rfl ?_
    subst eμ7 eμ3 eμ1
    exact J_iret (dk okX12_rule 15 rfl) rfl k
  refine J_if_ne (tgt := 26) (dk okX12_rule 7 rfl) (by decide) (fun h4 => ?_) (fun h4 => ?_)
  · refine J_sub (ls' := [(1, _)]) [0] rfl ?_
    (try simp only [if_neg h4] at K8 ⊢); exact K8
  · have t := t h4
    refine J_aload_n (dk okX12_rule 8 rfl) 1 rfl rfl ?_
    refine J_aload_n (dk okX12_rule 9 rfl) 1 rfl rfl ?_
    refine J_getR (dk okX12_rule 10 rfl) kfX12_50 ds_49 rfl ?_
    refine J_aload_n (dk okX12_rule 11 rfl) 1 rfl rfl ?_
    refine J_getI (dk okX12_rule 12 rfl) kfX12_219 ds_49 rfl ?_
    have s5 := t
    refine J_callVv (As := [rf E 58, .int (μ3.1 49 20)]) (dk okX12_rule 13 rfl) ds_49 rfl vkX12_laysCode lkX12_246 rfl rfl (Nat.le_of_ble_eq_true rfl) (by decide) (con_X12_laysCode ds_58 s5 ⟨rfl, ?_⟩)
    refine J_nm (fun μ6 eμ6 => ?_)
    subst eμ6
    refine J_sub (ls' := [(1, _)]) [0] rfl ?_
    (try simp only [if_pos h4] at K8 ⊢); exact K8

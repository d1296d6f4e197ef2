/-! the law: the two calls that may throw, and its loop; by program (wip/whole/mklaw3.py) -/
theorem lg_same (x : Int64) : lg_cmp x x = 0 := by unfold lg_cmp; simp
section LD
variable {E : Ex} {G : Gx} {μ : Mm} {b L n : Nat} {xs : Nat → Int32} {σ : ST} {R : List Int64}
theorem lc_z {below : List Frame} {a : Array Value} {s : State} {k l : Nat} {A : Nat → Prop} {Z : State → Prop} : ∀ t : State, MQ below (Qcx E A QF) a s k l A t → Z t := by
  rintro t ⟨o, -, -, ⟨⟨v, μ', -, hq, -⟩, -⟩, -⟩
  exact hq.elim
theorem lc_4 (hG : LG b L xs G) (hn : n + 5 ≤ L) (hk : gk G + 1 ≤ 601024) (hl : gl G + 6 ≤ 7293034) (h : Sim σ R μ) (k : ∀ σ R μ, Sim σ R μ → J E (gup G) 130 mL_law QF 1460 (lwl E b n) [] μ) : J E G 130 mL_law QF 332 (lwl E b n) [] μ := by
  obtain ⟨s1, s2⟩ := Sim_one h (xs (n + 1)) (xs (n + 2))
  have hr := hG.1
  refine J_aload_n (dk okLw_1 13 rfl) 1 rfl rfl ?_
  refine J_arg hG hn (j := 1) (by omega) 0 4 rfl rfl (by decide) (dk okLw_1 14 rfl) (dk okLw_1 15 rfl) (dk okLw_1 16 rfl) (dk okLw_1 17 rfl) (dk okLw_1 18 rfl) ?_
  refine J_arg hG hn (j := 2) (by omega) 0 4 rfl rfl (by decide) (dk okLw_1 19 rfl) (dk okLw_1 20 rfl) (dk okLw_1 21 rfl) (dk okLw_1 22 rfl) (dk okLw_1 23 rfl) ?_
  refine J_aload_n (dk okLw_1 24 rfl) 3 rfl rfl ?_
  refine J_callL (n := 4) (As := [rf E 0, .int (xs (n + 1)), .int (xs (n + 2)), rf E 78]) (d' := 9) (M' := mL_one) (dk okLw_1 25 rfl) wkL_one_s wkL_one_i wkL_one_c lkL_42 (by decide +kernel) (by decide) rfl rfl (Nat.le_of_ble_eq_true rfl) (Nat.le_of_ble_eq_true rfl) hG.2.2.2.2.2.1 (by rw [hr]; exact hk) (by rw [hr]; exact hl) lc_z (con_L_one (fun ht => ?_) (fun ht => (s2 ht).1) (fun ht => ?_))
  · obtain ⟨a1, a2, a3⟩ := s1 ht
    refine J_istore (x := 1) (ls' := [(5, _), (0, _), (1, _), (2, _), (3, _), (4, _)]) (dk okLw_1 26 rfl) (by decide) rfl ?_
    refine J_aload_n (dk okLw_1 27 rfl) 3 rfl rfl ?_
    refine J_arg hG.up hn (j := 1) (by omega) 1 5 rfl rfl (by decide) (dk okLw_1 28 rfl) (dk okLw_1 29 rfl) (dk okLw_1 30 rfl) (dk okLw_1 31 rfl) (dk okLw_1 32 rfl) ?_
    refine J_arg hG.up hn (j := 2) (by omega) 1 5 rfl rfl (by decide) (dk okLw_1 33 rfl) (dk okLw_1 34 rfl) (dk okLw_1 35 rfl) (dk okLw_1 36 rfl) (dk okLw_1 37 rfl) ?_
    refine J_callVi (As := [.int (xs (n + 1)), .int (xs (n + 2))]) (dk okLw_1 38 rfl) ds_49 rfl vkX12_one lkL_47 rfl rfl (Nat.le_of_ble_eq_true rfl) (Nat.le_of_ble_eq_true rfl) (con_X12_one a1 ⟨_, rfl, ?_⟩)
    refine J_istore (ls' := [(6, _), (5, _), (0, _), (1, _), (2, _), (3, _), (4, _)]) (dk okLw_1 39 rfl) (by decide) rfl ?_
    refine J_aload_n (dk okLw_1 40 rfl) 4 rfl rfl ?_
    refine J_callVi (As := []) (dk okLw_1 41 rfl) ds_49 rfl vkX12_thrown lkL_48 rfl rfl (Nat.le_of_ble_eq_true rfl) (Nat.le_of_ble_eq_true rfl) (con_X12_thrown ⟨_, rfl, ?_⟩)
    refine J_iload (dk okLw_1 42 rfl) 1 rfl ?_
    refine J_icmp_eq (tgt := 380) (dk okLw_1 43 rfl) (by decide) (fun _ => ?_) (fun y => absurd a2 y)
    refine J_iload (dk okLw_1 46 rfl) 1 rfl ?_
    refine J_if_ne (tgt := 397) (dk okLw_1 47 rfl) (by decide) (fun _ => ?_) (fun y => absurd y (by decide))
    refine J_goto (tgt := 1460) (dk okLw_1 57 rfl) (by decide) ?_
    exact J_sub (ls' := lwl E b n) [2, 3, 4, 5, 6] rfl (k σ R _ a3)
  · obtain ⟨a1, a2, a3, a4⟩ := (s2 ht).2 _ rfl
    refine J_istore (x := 0) (ls' := [(5, _), (0, _), (1, _), (2, _), (3, _), (4, _)]) (dk okLw_1 26 rfl) (by decide) rfl ?_
    refine J_aload_n (dk okLw_1 27 rfl) 3 rfl rfl ?_
    refine J_arg hG.up hn (j := 1) (by omega) 1 5 rfl rfl (by decide) (dk okLw_1 28 rfl) (dk okLw_1 29 rfl) (dk okLw_1 30 rfl) (dk okLw_1 31 rfl) (dk okLw_1 32 rfl) ?_
    refine J_arg hG.up hn (j := 2) (by omega) 1 5 rfl rfl (by decide) (dk okLw_1 33 rfl) (dk okLw_1 34 rfl) (dk okLw_1 35 rfl) (dk okLw_1 36 rfl) (dk okLw_1 37 rfl) ?_
    refine J_callVi (As := [.int (xs (n + 1)), .int (xs (n + 2))]) (dk okLw_1 38 rfl) ds_49 rfl vkX12_one lkL_47 rfl rfl (Nat.le_of_ble_eq_true rfl) (Nat.le_of_ble_eq_true rfl) (con_X12_one a1 ⟨_, rfl, ?_⟩)
    refine J_istore (ls' := [(6, _), (5, _), (0, _), (1, _), (2, _), (3, _), (4, _)]) (dk okLw_1 39 rfl) (by decide) rfl ?_
    refine J_aload_n (dk okLw_1 40 rfl) 4 rfl rfl ?_
    refine J_callVi (As := []) (dk okLw_1 41 rfl) ds_49 rfl vkX12_thrown lkL_48 rfl rfl (Nat.le_of_ble_eq_true rfl) (Nat.le_of_ble_eq_true rfl) (con_X12_thrown ⟨_, rfl, ?_⟩)
    refine J_iload (dk okLw_1 42 rfl) 1 rfl ?_
    refine J_icmp_eq (tgt := 380) (dk okLw_1 43 rfl) (by decide) (fun _ => ?_) (fun y => absurd a2 y)
    refine J_iload (dk okLw_1 46 rfl) 1 rfl ?_
    refine J_if_ne (tgt := 397) (dk okLw_1 47 rfl) (by decide) (fun y => absurd rfl y) (fun _ => ?_)
    refine J_aload_n (dk okLw_1 48 rfl) 5 rfl rfl ?_
    refine J_iconst (v := 0) (dk okLw_1 49 rfl) (by decide) ?_
    refine J_lald (dk okLw_1 50 rfl) (show dscL[78]? = some (.inr (.inr 1)) from rfl) (vp_in_nI (n := 0) (N := 1) (by decide) (by decide)) ?_
    refine J_iload (dk okLw_1 51 rfl) 0 rfl ?_
    refine J_i2l (dk okLw_1 52 rfl) ?_
    refine J_lcmp (dk okLw_1 53 rfl) ?_
    refine J_at (v := 0) (by rw [show (Int32.toNatClampNeg 0) = 0 from rfl, a3]; exact lg_same _) ?_
    refine J_if_eq (tgt := 397) (dk okLw_1 54 rfl) (by decide) (fun _ => ?_) (fun y => absurd rfl y)
    refine J_goto (tgt := 1460) (dk okLw_1 57 rfl) (by decide) ?_
    exact J_sub (ls' := lwl E b n) [2, 3, 4, 5, 6] rfl (k σ R _ a4)
theorem lc_50 (hG : LG b L xs G) (hn : n + 5 ≤ L) (hk : gk G + 1 ≤ 601024) (hl : gl G + 6 ≤ 7293034) (h : Sim σ R μ) (k : ∀ σ R μ, Sim σ R μ → J E (gup G) 130 mL_law QF 1460 (lwl E b n) [] μ) : J E G 130 mL_law QF 1405 (lwl E b n) [] μ := by
  obtain ⟨s1, s2⟩ := Sim_row h (xs (n + 1))
  have hr := hG.1
  refine J_aload_n (dk okLw_13 3 rfl) 1 rfl rfl ?_
  refine J_arg hG hn (j := 1) (by omega) 0 4 rfl rfl (by decide) (dk okLw_13 4 rfl) (dk okLw_13 5 rfl) (dk okLw_13 6 rfl) (dk okLw_13 7 rfl) (dk okLw_13 8 rfl) ?_
  refine J_aload_n (dk okLw_13 9 rfl) 3 rfl rfl ?_
  refine J_callL (n := 3) (As := [rf E 0, .int (xs (n + 1)), rf E 78]) (d' := 9) (M' := mL_row) (dk okLw_13 10 rfl) wkL_row_s wkL_row_i wkL_row_c lkL_233 (by decide +kernel) (by decide) rfl rfl (Nat.le_of_ble_eq_true rfl) (Nat.le_of_ble_eq_true rfl) hG.2.2.2.2.2.1 (by rw [hr]; exact hk) (by rw [hr]; exact hl) lc_z (con_L_row (fun ht => ?_) (fun ht => (s2 ht).1) (fun ht => ?_))
  · obtain ⟨a1, a2, a3⟩ := s1 ht
    refine J_istore (x := 1) (ls' := [(5, _), (0, _), (1, _), (2, _), (3, _), (4, _)]) (dk okLw_13 11 rfl) (by decide) rfl ?_
    refine J_aload_n (dk okLw_13 12 rfl) 3 rfl rfl ?_
    refine J_arg hG.up hn (j := 1) (by omega) 1 5 rfl rfl (by decide) (dk okLw_13 13 rfl) (dk okLw_13 14 rfl) (dk okLw_13 15 rfl) (dk okLw_13 16 rfl) (dk okLw_13 17 rfl) ?_
    refine J_callVl (As := [.int (xs (n + 1))]) (dk okLw_13 18 rfl) ds_49 rfl vkX12_row lkL_236 rfl rfl (Nat.le_of_ble_eq_true rfl) (Nat.le_of_ble_eq_true rfl) (con_X12_row a1 ⟨_, rfl, ?_⟩)
    refine J_lstore (ls' := [(6, _), (5, _), (0, _), (1, _), (2, _), (3, _), (4, _)]) (dk okLw_13 19 rfl) (by decide) rfl ?_
    refine J_aload_n (dk okLw_13 20 rfl) 4 rfl rfl ?_
    refine J_callVi (As := []) (dk okLw_13 21 rfl) ds_49 rfl vkX12_thrown lkL_48 rfl rfl (Nat.le_of_ble_eq_true rfl) (Nat.le_of_ble_eq_true rfl) (con_X12_thrown ⟨_, rfl, ?_⟩)
    refine J_iload (dk okLw_13 22 rfl) 1 rfl ?_
    refine J_icmp_eq (tgt := 1441) (dk okLw_13 23 rfl) (by decide) (fun _ => ?_) (fun y => absurd a2 y)
    refine J_iload (dk okLw_13 26 rfl) 1 rfl ?_
    refine J_if_ne (tgt := 1457) (dk okLw_13 27 rfl) (by decide) (fun _ => ?_) (fun y => absurd y (by decide))
    refine J_goto (tgt := 1460) (dk okLw_13 36 rfl) (by decide) ?_
    exact J_sub (ls' := lwl E b n) [2, 3, 4, 5, 6] rfl (k σ R _ a3)
  · obtain ⟨a1, a2, a3, a4⟩ := (s2 ht).2 _ rfl
    refine J_istore (x := 0) (ls' := [(5, _), (0, _), (1, _), (2, _), (3, _), (4, _)]) (dk okLw_13 11 rfl) (by decide) rfl ?_
    refine J_aload_n (dk okLw_13 12 rfl) 3 rfl rfl ?_
    refine J_arg hG.up hn (j := 1) (by omega) 1 5 rfl rfl (by decide) (dk okLw_13 13 rfl) (dk okLw_13 14 rfl) (dk okLw_13 15 rfl) (dk okLw_13 16 rfl) (dk okLw_13 17 rfl) ?_
    refine J_callVl (As := [.int (xs (n + 1))]) (dk okLw_13 18 rfl) ds_49 rfl vkX12_row lkL_236 rfl rfl (Nat.le_of_ble_eq_true rfl) (Nat.le_of_ble_eq_true rfl) (con_X12_row a1 ⟨_, rfl, ?_⟩)
    refine J_lstore (ls' := [(6, _), (5, _), (0, _), (1, _), (2, _), (3, _), (4, _)]) (dk okLw_13 19 rfl) (by decide) rfl ?_
    refine J_aload_n (dk okLw_13 20 rfl) 4 rfl rfl ?_
    refine J_callVi (As := []) (dk okLw_13 21 rfl) ds_49 rfl vkX12_thrown lkL_48 rfl rfl (Nat.le_of_ble_eq_true rfl) (Nat.le_of_ble_eq_true rfl) (con_X12_thrown ⟨_, rfl, ?_⟩)
    refine J_iload (dk okLw_13 22 rfl) 1 rfl ?_
    refine J_icmp_eq (tgt := 1441) (dk okLw_13 23 rfl) (by decide) (fun _ => ?_) (fun y => absurd a2 y)
    refine J_iload (dk okLw_13 26 rfl) 1 rfl ?_
    refine J_if_ne (tgt := 1457) (dk okLw_13 27 rfl) (by decide) (fun y => absurd rfl y) (fun _ => ?_)
    refine J_aload_n (dk okLw_13 28 rfl) 5 rfl rfl ?_
    refine J_iconst (v := 0) (dk okLw_13 29 rfl) (by decide) ?_
    refine J_lald (dk okLw_13 30 rfl) (show dscL[78]? = some (.inr (.inr 1)) from rfl) (vp_in_nI (n := 0) (N := 1) (by decide) (by decide)) ?_
    refine J_lload (dk okLw_13 31 rfl) 0 rfl ?_
    refine J_lcmp (dk okLw_13 32 rfl) ?_
    refine J_at (v := 0) (by rw [show (Int32.toNatClampNeg 0) = 0 from rfl, a3]; exact lg_same _) ?_
    refine J_if_eq (tgt := 1457) (dk okLw_13 33 rfl) (by decide) (fun _ => ?_) (fun y => absurd rfl y)
    refine J_goto (tgt := 1460) (dk okLw_13 36 rfl) (by decide) ?_
    exact J_sub (ls' := lwl E b n) [2, 3, 4, 5, 6] rfl (k σ R _ a4)
def tgL : List Nat := [256, 281, 306, 319, 332, 400, 461, 486, 523, 560, 585, 622, 647, 660, 673, 686, 723, 736, 749, 762, 775, 788, 813, 826, 851, 864, 877, 890, 915, 928, 953, 966, 979, 992, 1005, 1054, 1067, 1092, 1117, 1154, 1167, 1180, 1193, 1218, 1255, 1268, 1293, 1330, 1355, 1380, 1405]
def ofL : Array Int := #[217, 242, 267, 280, 293, 361, 422, 447, 484, 521, 546, 583, 608, 621, 634, 647, 684, 697, 710, 723, 736, 749, 774, 787, 812, 825, 838, 851, 876, 889, 914, 927, 940, 953, 966, 1015, 1028, 1053, 1078, 1115, 1128, 1141, 1154, 1179, 1216, 1229, 1254, 1291, 1316, 1341, 1366]
theorem ofL_ok : ∀ c, c < 51 → ofL[c]? = some (ofL.getD c 0) ∧ (39 : Int) + ofL.getD c 0 = ((tgL.getD c 0 : Nat) : Int) := by decide +kernel
theorem law_case (hG : LG b L xs G) (hn : n + 5 ≤ L) (hk : gk G + 1 ≤ 601024) (hl : gl G + 6 ≤ 7293034) (h : Sim σ R μ) (k1 : ∀ σ R μ, Sim σ R μ → J E G 130 mL_law QF 1460 (lwl E b n) [] μ) (k2 : ∀ σ R μ, Sim σ R μ → J E (gup G) 130 mL_law QF 1460 (lwl E b n) [] μ) : ∀ c, c < 51 → J E G 130 mL_law QF (tgL.getD c 0) (lwl E b n) [] μ
  | 0, _ => lc_0 hG hn h k1
  | 1, _ => lc_1 hG hn h k1
  | 2, _ => lc_2 hG hn h k1
  | 3, _ => lc_3 hG hn h k1
  | 4, _ => lc_4 hG hn hk hl h k2
  | 5, _ => lc_5 hG hn h k1
  | 6, _ => lc_6 hG hn h k1
  | 7, _ => lc_7 hG hn h k1
  | 8, _ => lc_8 hG hn h k1
  | 9, _ => lc_9 hG hn h k1
  | 10, _ => lc_10 hG hn h k1
  | 11, _ => lc_11 hG hn h k1
  | 12, _ => lc_12 hG hn h k1
  | 13, _ => lc_13 hG hn h k1
  | 14, _ => lc_14 hG hn h k1
  | 15, _ => lc_15 hG hn h k1
  | 16, _ => lc_16 hG hn h k1
  | 17, _ => lc_17 hG hn h k1
  | 18, _ => lc_18 hG hn h k1
  | 19, _ => lc_19 hG hn h k1
  | 20, _ => lc_20 hG hn h k1
  | 21, _ => lc_21 hG hn h k1
  | 22, _ => lc_22 hG hn h k1
  | 23, _ => lc_23 hG hn h k1
  | 24, _ => lc_24 hG hn h k1
  | 25, _ => lc_25 hG hn h k1
  | 26, _ => lc_26 hG hn h k1
  | 27, _ => lc_27 hG hn h k1
  | 28, _ => lc_28 hG hn h k1
  | 29, _ => lc_29 hG hn h k1
  | 30, _ => lc_30 hG hn h k1
  | 31, _ => lc_31 hG hn h k1
  | 32, _ => lc_32 hG hn h k1
  | 33, _ => lc_33 hG hn h k1
  | 34, _ => lc_34 hG hn h k1
  | 35, _ => lc_35 hG hn h k1
  | 36, _ => lc_36 hG hn h k1
  | 37, _ => lc_37 hG hn h k1
  | 38, _ => lc_38 hG hn h k1
  | 39, _ => lc_39 hG hn h k1
  | 40, _ => lc_40 hG hn h k1
  | 41, _ => lc_41 hG hn h k1
  | 42, _ => lc_42 hG hn h k1
  | 43, _ => lc_43 hG hn h k1
  | 44, _ => lc_44 hG hn h k1
  | 45, _ => lc_45 hG hn h k1
  | 46, _ => lc_46 hG hn h k1
  | 47, _ => lc_47 hG hn h k1
  | 48, _ => lc_48 hG hn h k1
  | 49, _ => lc_49 hG hn h k1
  | 50, _ => lc_50 hG hn hk hl h k2
  | c + 51, hc => absurd hc (by omega)
theorem lc_next (k : J E G 130 mL_law QF 23 (lwl E b (n + 5)) [] μ) : J E G 130 mL_law QF 1460 (lwl E b n) [] μ := by
  refine J_iinc (v := nI (n + 5)) (ls' := [(4, _), (0, _), (1, _), (2, _), (3, _)]) (dk okLw_13 37 rfl) 4 rfl (nI_add n 5) (by decide) rfl ?_
  refine J_goto (tgt := 23) (dk okLw_13 38 rfl) (by decide) ?_
  exact J_sub (ls' := lwl E b (n + 5)) [1, 2, 3, 4, 0] rfl k
theorem law_loop : ∀ (m n : Nat) (G : Gx) (σ : ST) (R : List Int64) (μ : Mm), LG b L xs G → L ≤ n + 5 * m + 4 → n ≤ 3000 → gk G + m ≤ 601024 → gl G + 6 * m ≤ 7293034 → Sim σ R μ → J E G 130 mL_law QF 23 (lwl E b n) [] μ := by
  intro m
  induction m with
  | zero =>
    intro n G σ R μ hG h1 h2 h3 h4 hs
    have hL := hG.2.2.2.2.2.2.2
    refine J_iload (dk okLw_0 13 rfl) 4 rfl ?_
    refine J_aload_nx (dk okLw_0 14 rfl) 0 rfl rfl ?_
    refine J_slen hG (dk okLw_0 15 rfl) ?_
    refine J_iconst (v := 5) (dk okLw_0 16 rfl) (by decide) ?_
    refine J_isub (dk okLw_0 17 rfl) ?_
    have e5 : (nI L - 5).toInt = (L : Int) - 5 := by
      rw [toInt_subS (by rw [nI_toInt (by omega), show (5 : Int32).toInt = 5 by decide +kernel]; omega), nI_toInt (by omega), show (5 : Int32).toInt = 5 by decide +kernel]
    refine J_icmp_gt (tgt := 1466) (dk okLw_0 18 rfl) (by decide) (fun _ => ?_) (fun y => absurd (by rw [fa_lt, e5, nI_toInt (by omega)]; omega) y)
    refine J_iconst (v := 1) (dk okLw_13 39 rfl) (by decide) ?_
    exact J_lawret hG (dk okLw_13 40 rfl)
  | succ m ih =>
    intro n G σ R μ hG h1 h2 h3 h4 hs
    have hL := hG.2.2.2.2.2.2.2
    refine J_iload (dk okLw_0 13 rfl) 4 rfl ?_
    refine J_aload_nx (dk okLw_0 14 rfl) 0 rfl rfl ?_
    refine J_slen hG (dk okLw_0 15 rfl) ?_
    refine J_iconst (v := 5) (dk okLw_0 16 rfl) (by decide) ?_
    refine J_isub (dk okLw_0 17 rfl) ?_
    have e5 : (nI L - 5).toInt = (L : Int) - 5 := by
      rw [toInt_subS (by rw [nI_toInt (by omega), show (5 : Int32).toInt = 5 by decide +kernel]; omega), nI_toInt (by omega), show (5 : Int32).toInt = 5 by decide +kernel]
    refine J_icmp_gt (tgt := 1466) (dk okLw_0 18 rfl) (by decide) (fun _ => ?_) (fun y => ?_)
    · refine J_iconst (v := 1) (dk okLw_13 39 rfl) (by decide) ?_
      exact J_lawret hG (dk okLw_13 40 rfl)
    · have hn : n + 5 ≤ L := by
        rw [fa_lt, e5, nI_toInt (by omega)] at y
        omega
      have k1 : ∀ σ R μ, Sim σ R μ → J E G 130 mL_law QF 1460 (lwl E b n) [] μ := fun σ R μ h => lc_next (ih (n + 5) G σ R μ hG (by omega) (by omega) (by omega) (by omega) h)
      have k2 : ∀ σ R μ, Sim σ R μ → J E (gup G) 130 mL_law QF 1460 (lwl E b n) [] μ := fun σ R μ h => lc_next (ih (n + 5) (gup G) σ R μ hG.up (by omega) (by omega) (by show gk G + 1 + m ≤ 601024; omega) (by show gl G + 6 + 6 * m ≤ 7293034; omega) h)
      refine J_aload_nx (dk okLw_0 19 rfl) 0 rfl rfl ?_
      refine J_iload (dk okLw_0 20 rfl) 4 rfl ?_
      refine J_sld hG (v := xs n) (vp_in_nI (by omega) (by omega)) (by rw [nI_clamp (by omega)]) (dk okLw_0 21 rfl) ?_
      refine J_bipush (v := 63) (dk okLw_0 22 rfl) (by decide) ?_
      refine J_iand (dk okLw_0 23 rfl) ?_
      generalize xs n &&& 63 = x
      by_cases hx : x.toInt < 0 ∨ 50 < x.toInt
      · exact J_tableOut (tgt := 1460) (dk okLw_0 24 rfl) hx (by decide) (k1 σ R μ hs)
      · have hc : x.toInt.toNat < 51 := by omega
        have ex : x = nI x.toInt.toNat := by rw [fa_eq, nI_toInt (by omega)]; omega
        have et : (x.toInt - 0).toNat = x.toInt.toNat := by omega
        obtain ⟨o1, o2⟩ := ofL_ok x.toInt.toNat hc
        exact J_tableIn (off := ofL.getD x.toInt.toNat 0) (tgt := tgL.getD x.toInt.toNat 0) (dk okLw_0 24 rfl) (by omega) (by omega) (by rw [et]; exact o1) o2 (law_case hG hn (by omega) (by omega) hs k1 k2 _ hc)
end LD

/-! the law's calls; by program (wip/whole/mklaw2.py) -/
section LC
variable {E : Ex} {G : Gx} {μ : Mm} {b L n : Nat} {xs : Nat → Int32} {σ : ST} {R : List Int64}
theorem lc_0 (hG : LG b L xs G) (hn : n + 5 ≤ L) (h : Sim σ R μ) (k : ∀ σ R μ, Sim σ R μ → J E G 130 mL_law QF 1460 (lwl E b n) [] μ) : J E G 130 mL_law QF 256 (lwl E b n) [] μ := by
  obtain ⟨c1, c2, c3, σ', R', c4⟩ := call_sign h (xs (n + 1))
  refine J_aload_n (dk okLw_0 25 rfl) 1 rfl rfl ?_
  refine J_arg hG hn (j := 1) (by omega) 0 4 rfl rfl (by decide) (dk okLw_0 26 rfl) (dk okLw_0 27 rfl) (dk okLw_0 28 rfl) (dk okLw_0 29 rfl) (dk okLw_0 30 rfl) ?_
  refine J_callVi (As := [.int (xs (n + 1))]) (dk okLw_0 31 rfl) ds_0 rfl vkX11_sign lkL_23 rfl rfl (Nat.le_of_ble_eq_true rfl) (Nat.le_of_ble_eq_true rfl) (con_X11_sign c1 ⟨_, rfl, ?_⟩)
  refine J_aload_n (dk okLw_0 32 rfl) 2 rfl rfl ?_
  refine J_arg hG hn (j := 1) (by omega) 0 4 rfl rfl (by decide) (dk okLw_0 33 rfl) (dk okLw_0 34 rfl) (dk okLw_0 35 rfl) (dk okLw_0 36 rfl) (dk okLw_0 37 rfl) ?_
  refine J_callVi (As := [.int (xs (n + 1))]) (dk okLw_0 38 rfl) ds_49 rfl vkX12_sign lkL_27 rfl rfl (Nat.le_of_ble_eq_true rfl) (Nat.le_of_ble_eq_true rfl) (con_X12_sign c2 ⟨_, rfl, ?_⟩)
  exact J_icmp_eq (tgt := 1460) (dk okLw_0 39 rfl) (by decide) (fun _ => k σ' R' _ c4) (fun y => absurd c3 y)
theorem lc_1 (hG : LG b L xs G) (hn : n + 5 ≤ L) (h : Sim σ R μ) (k : ∀ σ R μ, Sim σ R μ → J E G 130 mL_law QF 1460 (lwl E b n) [] μ) : J E G 130 mL_law QF 281 (lwl E b n) [] μ := by
  obtain ⟨c1, c2, c3, σ', R', c4⟩ := call_end h (xs (n + 1))
  refine J_aload_n (dk okLw_0 42 rfl) 1 rfl rfl ?_
  refine J_arg hG hn (j := 1) (by omega) 0 4 rfl rfl (by decide) (dk okLw_0 43 rfl) (dk okLw_0 44 rfl) (dk okLw_0 45 rfl) (dk okLw_0 46 rfl) (dk okLw_0 47 rfl) ?_
  refine J_callVi (As := [.int (xs (n + 1))]) (dk okLw_0 48 rfl) ds_0 rfl vkX11_end lkL_28 rfl rfl (Nat.le_of_ble_eq_true rfl) (Nat.le_of_ble_eq_true rfl) (con_X11_end ⟨_, rfl, ?_⟩)
  refine J_aload_n (dk okLw_0 49 rfl) 2 rfl rfl ?_
  refine J_arg hG hn (j := 1) (by omega) 0 4 rfl rfl (by decide) (dk okLw_0 50 rfl) (dk okLw_0 51 rfl) (dk okLw_0 52 rfl) (dk okLw_0 53 rfl) (dk okLw_0 54 rfl) ?_
  refine J_callVi (As := [.int (xs (n + 1))]) (dk okLw_0 55 rfl) ds_49 rfl vkX12_end lkL_32 rfl rfl (Nat.le_of_ble_eq_true rfl) (Nat.le_of_ble_eq_true rfl) (con_X12_end ⟨_, rfl, ?_⟩)
  exact J_icmp_eq (tgt := 1460) (dk okLw_0 56 rfl) (by decide) (fun _ => k σ' R' _ c4) (fun y => absurd c3 y)
theorem lc_2 (hG : LG b L xs G) (hn : n + 5 ≤ L) (h : Sim σ R μ) (k : ∀ σ R μ, Sim σ R μ → J E G 130 mL_law QF 1460 (lwl E b n) [] μ) : J E G 130 mL_law QF 306 (lwl E b n) [] μ := by
  obtain ⟨c1, c2, c3, σ', R', c4⟩ := call_people h
  refine J_aload_n (dk okLw_0 59 rfl) 1 rfl rfl ?_
  refine J_callVi (As := []) (dk okLw_1 0 rfl) ds_0 rfl vkX11_people lkL_33 rfl rfl (Nat.le_of_ble_eq_true rfl) (Nat.le_of_ble_eq_true rfl) (con_X11_people c1 ⟨_, rfl, ?_⟩)
  refine J_aload_n (dk okLw_1 1 rfl) 2 rfl rfl ?_
  refine J_callVi (As := []) (dk okLw_1 2 rfl) ds_49 rfl vkX12_people lkL_37 rfl rfl (Nat.le_of_ble_eq_true rfl) (Nat.le_of_ble_eq_true rfl) (con_X12_people c2 ⟨_, rfl, ?_⟩)
  exact J_icmp_eq (tgt := 1460) (dk okLw_1 3 rfl) (by decide) (fun _ => k σ' R' _ c4) (fun y => absurd c3 y)
theorem lc_3 (hG : LG b L xs G) (hn : n + 5 ≤ L) (h : Sim σ R μ) (k : ∀ σ R μ, Sim σ R μ → J E G 130 mL_law QF 1460 (lwl E b n) [] μ) : J E G 130 mL_law QF 319 (lwl E b n) [] μ := by
  obtain ⟨c1, c2, c3, σ', R', c4⟩ := call_rule h
  refine J_aload_n (dk okLw_1 6 rfl) 1 rfl rfl ?_
  refine J_callVi (As := []) (dk okLw_1 7 rfl) ds_0 rfl vkX11_rule lkL_38 rfl rfl (Nat.le_of_ble_eq_true rfl) (Nat.le_of_ble_eq_true rfl) (con_X11_rule c1 ⟨_, rfl, ?_⟩)
  refine J_aload_n (dk okLw_1 8 rfl) 2 rfl rfl ?_
  refine J_callVi (As := []) (dk okLw_1 9 rfl) ds_49 rfl vkX12_rule lkL_41 rfl rfl (Nat.le_of_ble_eq_true rfl) (Nat.le_of_ble_eq_true rfl) (con_X12_rule c2 ⟨_, rfl, ?_⟩)
  exact J_icmp_eq (tgt := 1460) (dk okLw_1 10 rfl) (by decide) (fun _ => k σ' R' _ c4) (fun y => absurd c3 y)
theorem lc_5 (hG : LG b L xs G) (hn : n + 5 ≤ L) (h : Sim σ R μ) (k : ∀ σ R μ, Sim σ R μ → J E G 130 mL_law QF 1460 (lwl E b n) [] μ) : J E G 130 mL_law QF 400 (lwl E b n) [] μ := by
  obtain ⟨c1, c2, c3, σ', R', c4⟩ := call_sheet h (xs (n + 1)) (xs (n + 2)) (xs (n + 3)) (xs (n + 4))
  refine J_aload_n (dk okLw_1 58 rfl) 1 rfl rfl ?_
  refine J_arg hG hn (j := 1) (by omega) 0 4 rfl rfl (by decide) (dk okLw_1 59 rfl) (dk okLw_2 0 rfl) (dk okLw_2 1 rfl) (dk okLw_2 2 rfl) (dk okLw_2 3 rfl) ?_
  refine J_arg hG hn (j := 2) (by omega) 0 4 rfl rfl (by decide) (dk okLw_2 4 rfl) (dk okLw_2 5 rfl) (dk okLw_2 6 rfl) (dk okLw_2 7 rfl) (dk okLw_2 8 rfl) ?_
  refine J_arg hG hn (j := 3) (by omega) 0 4 rfl rfl (by decide) (dk okLw_2 9 rfl) (dk okLw_2 10 rfl) (dk okLw_2 11 rfl) (dk okLw_2 12 rfl) (dk okLw_2 13 rfl) ?_
  refine J_arg hG hn (j := 4) (by omega) 0 4 rfl rfl (by decide) (dk okLw_2 14 rfl) (dk okLw_2 15 rfl) (dk okLw_2 16 rfl) (dk okLw_2 17 rfl) (dk okLw_2 18 rfl) ?_
  refine J_callVi (As := [.int (xs (n + 1)), .int (xs (n + 2)), .int (xs (n + 3)), .int (xs (n + 4))]) (dk okLw_2 19 rfl) ds_0 rfl vkX11_sheet lkL_51 rfl rfl (Nat.le_of_ble_eq_true rfl) (Nat.le_of_ble_eq_true rfl) (con_X11_sheet c1 ⟨_, rfl, ?_⟩)
  refine J_aload_n (dk okLw_2 20 rfl) 2 rfl rfl ?_
  refine J_arg hG hn (j := 1) (by omega) 0 4 rfl rfl (by decide) (dk okLw_2 21 rfl) (dk okLw_2 22 rfl) (dk okLw_2 23 rfl) (dk okLw_2 24 rfl) (dk okLw_2 25 rfl) ?_
  refine J_arg hG hn (j := 2) (by omega) 0 4 rfl rfl (by decide) (dk okLw_2 26 rfl) (dk okLw_2 27 rfl) (dk okLw_2 28 rfl) (dk okLw_2 29 rfl) (dk okLw_2 30 rfl) ?_
  refine J_arg hG hn (j := 3) (by omega) 0 4 rfl rfl (by decide) (dk okLw_2 31 rfl) (dk okLw_2 32 rfl) (dk okLw_2 33 rfl) (dk okLw_2 34 rfl) (dk okLw_2 35 rfl) ?_
  refine J_arg hG hn (j := 4) (by omega) 0 4 rfl rfl (by decide) (dk okLw_2 36 rfl) (dk okLw_2 37 rfl) (dk okLw_2 38 rfl) (dk okLw_2 39 rfl) (dk okLw_2 40 rfl) ?_
  refine J_callVi (As := [.int (xs (n + 1)), .int (xs (n + 2)), .int (xs (n + 3)), .int (xs (n + 4))]) (dk okLw_2 41 rfl) ds_49 rfl vkX12_sheet lkL_55 rfl rfl (Nat.le_of_ble_eq_true rfl) (Nat.le_of_ble_eq_true rfl) (con_X12_sheet c2 ⟨_, rfl, ?_⟩)
  exact J_icmp_eq (tgt := 1460) (dk okLw_2 42 rfl) (by decide) (fun _ => k σ' R' _ c4) (fun y => absurd c3 y)
theorem lc_6 (hG : LG b L xs G) (hn : n + 5 ≤ L) (h : Sim σ R μ) (k : ∀ σ R μ, Sim σ R μ → J E G 130 mL_law QF 1460 (lwl E b n) [] μ) : J E G 130 mL_law QF 461 (lwl E b n) [] μ := by
  obtain ⟨c1, c2, c3, σ', R', c4⟩ := call_minutes h (xs (n + 1))
  refine J_aload_n (dk okLw_2 45 rfl) 1 rfl rfl ?_
  refine J_arg hG hn (j := 1) (by omega) 0 4 rfl rfl (by decide) (dk okLw_2 46 rfl) (dk okLw_2 47 rfl) (dk okLw_2 48 rfl) (dk okLw_2 49 rfl) (dk okLw_2 50 rfl) ?_
  refine J_callVi (As := [.int (xs (n + 1))]) (dk okLw_2 51 rfl) ds_0 rfl vkX11_minutes lkL_56 rfl rfl (Nat.le_of_ble_eq_true rfl) (Nat.le_of_ble_eq_true rfl) (con_X11_minutes c1 ⟨_, rfl, ?_⟩)
  refine J_aload_n (dk okLw_2 52 rfl) 2 rfl rfl ?_
  refine J_arg hG hn (j := 1) (by omega) 0 4 rfl rfl (by decide) (dk okLw_2 53 rfl) (dk okLw_2 54 rfl) (dk okLw_2 55 rfl) (dk okLw_2 56 rfl) (dk okLw_2 57 rfl) ?_
  refine J_callVi (As := [.int (xs (n + 1))]) (dk okLw_2 58 rfl) ds_49 rfl vkX12_minutes lkL_59 rfl rfl (Nat.le_of_ble_eq_true rfl) (Nat.le_of_ble_eq_true rfl) (con_X12_minutes c2 ⟨_, rfl, ?_⟩)
  exact J_icmp_eq (tgt := 1460) (dk okLw_2 59 rfl) (by decide) (fun _ => k σ' R' _ c4) (fun y => absurd c3 y)
theorem lc_7 (hG : LG b L xs G) (hn : n + 5 ≤ L) (h : Sim σ R μ) (k : ∀ σ R μ, Sim σ R μ → J E G 130 mL_law QF 1460 (lwl E b n) [] μ) : J E G 130 mL_law QF 486 (lwl E b n) [] μ := by
  obtain ⟨c1, c2, c3, σ', R', c4⟩ := call_leads h (xs (n + 1)) (xs (n + 2))
  refine J_aload_n (dk okLw_3 2 rfl) 1 rfl rfl ?_
  refine J_arg hG hn (j := 1) (by omega) 0 4 rfl rfl (by decide) (dk okLw_3 3 rfl) (dk okLw_3 4 rfl) (dk okLw_3 5 rfl) (dk okLw_3 6 rfl) (dk okLw_3 7 rfl) ?_
  refine J_arg hG hn (j := 2) (by omega) 0 4 rfl rfl (by decide) (dk okLw_3 8 rfl) (dk okLw_3 9 rfl) (dk okLw_3 10 rfl) (dk okLw_3 11 rfl) (dk okLw_3 12 rfl) ?_
  refine J_callVi (As := [.int (xs (n + 1)), .int (xs (n + 2))]) (dk okLw_3 13 rfl) ds_0 rfl vkX11_leads lkL_60 rfl rfl (Nat.le_of_ble_eq_true rfl) (Nat.le_of_ble_eq_true rfl) (con_X11_leads c1 ⟨_, rfl, ?_⟩)
  refine J_aload_n (dk okLw_3 14 rfl) 2 rfl rfl ?_
  refine J_arg hG hn (j := 1) (by omega) 0 4 rfl rfl (by decide) (dk okLw_3 15 rfl) (dk okLw_3 16 rfl) (dk okLw_3 17 rfl) (dk okLw_3 18 rfl) (dk okLw_3 19 rfl) ?_
  refine J_arg hG hn (j := 2) (by omega) 0 4 rfl rfl (by decide) (dk okLw_3 20 rfl) (dk okLw_3 21 rfl) (dk okLw_3 22 rfl) (dk okLw_3 23 rfl) (dk okLw_3 24 rfl) ?_
  refine J_callVi (As := [.int (xs (n + 1)), .int (xs (n + 2))]) (dk okLw_3 25 rfl) ds_49 rfl vkX12_leads lkL_63 rfl rfl (Nat.le_of_ble_eq_true rfl) (Nat.le_of_ble_eq_true rfl) (con_X12_leads c2 ⟨_, rfl, ?_⟩)
  exact J_icmp_eq (tgt := 1460) (dk okLw_3 26 rfl) (by decide) (fun _ => k σ' R' _ c4) (fun y => absurd c3 y)
theorem lc_8 (hG : LG b L xs G) (hn : n + 5 ≤ L) (h : Sim σ R μ) (k : ∀ σ R μ, Sim σ R μ → J E G 130 mL_law QF 1460 (lwl E b n) [] μ) : J E G 130 mL_law QF 523 (lwl E b n) [] μ := by
  obtain ⟨c1, c2, c3, σ', R', c4⟩ := call_sacks h (xs (n + 1)) (xs (n + 2))
  refine J_aload_n (dk okLw_3 29 rfl) 1 rfl rfl ?_
  refine J_arg hG hn (j := 1) (by omega) 0 4 rfl rfl (by decide) (dk okLw_3 30 rfl) (dk okLw_3 31 rfl) (dk okLw_3 32 rfl) (dk okLw_3 33 rfl) (dk okLw_3 34 rfl) ?_
  refine J_arg hG hn (j := 2) (by omega) 0 4 rfl rfl (by decide) (dk okLw_3 35 rfl) (dk okLw_3 36 rfl) (dk okLw_3 37 rfl) (dk okLw_3 38 rfl) (dk okLw_3 39 rfl) ?_
  refine J_callVi (As := [.int (xs (n + 1)), .int (xs (n + 2))]) (dk okLw_3 40 rfl) ds_0 rfl vkX11_sacks lkL_64 rfl rfl (Nat.le_of_ble_eq_true rfl) (Nat.le_of_ble_eq_true rfl) (con_X11_sacks c1 ⟨_, rfl, ?_⟩)
  refine J_aload_n (dk okLw_3 41 rfl) 2 rfl rfl ?_
  refine J_arg hG hn (j := 1) (by omega) 0 4 rfl rfl (by decide) (dk okLw_3 42 rfl) (dk okLw_3 43 rfl) (dk okLw_3 44 rfl) (dk okLw_3 45 rfl) (dk okLw_3 46 rfl) ?_
  refine J_arg hG hn (j := 2) (by omega) 0 4 rfl rfl (by decide) (dk okLw_3 47 rfl) (dk okLw_3 48 rfl) (dk okLw_3 49 rfl) (dk okLw_3 50 rfl) (dk okLw_3 51 rfl) ?_
  refine J_callVi (As := [.int (xs (n + 1)), .int (xs (n + 2))]) (dk okLw_3 52 rfl) ds_49 rfl vkX12_sacks lkL_67 rfl rfl (Nat.le_of_ble_eq_true rfl) (Nat.le_of_ble_eq_true rfl) (con_X12_sacks c2 ⟨_, rfl, ?_⟩)
  exact J_icmp_eq (tgt := 1460) (dk okLw_3 53 rfl) (by decide) (fun _ => k σ' R' _ c4) (fun y => absurd c3 y)
theorem lc_9 (hG : LG b L xs G) (hn : n + 5 ≤ L) (h : Sim σ R μ) (k : ∀ σ R μ, Sim σ R μ → J E G 130 mL_law QF 1460 (lwl E b n) [] μ) : J E G 130 mL_law QF 560 (lwl E b n) [] μ := by
  obtain ⟨c1, c2, c3, σ', R', c4⟩ := call_steps h (xs (n + 1))
  refine J_aload_n (dk okLw_3 56 rfl) 1 rfl rfl ?_
  refine J_arg hG hn (j := 1) (by omega) 0 4 rfl rfl (by decide) (dk okLw_3 57 rfl) (dk okLw_3 58 rfl) (dk okLw_3 59 rfl) (dk okLw_4 0 rfl) (dk okLw_4 1 rfl) ?_
  refine J_callVi (As := [.int (xs (n + 1))]) (dk okLw_4 2 rfl) ds_0 rfl vkX11_steps lkL_68 rfl rfl (Nat.le_of_ble_eq_true rfl) (Nat.le_of_ble_eq_true rfl) (con_X11_steps c1 ⟨_, rfl, ?_⟩)
  refine J_aload_n (dk okLw_4 3 rfl) 2 rfl rfl ?_
  refine J_arg hG hn (j := 1) (by omega) 0 4 rfl rfl (by decide) (dk okLw_4 4 rfl) (dk okLw_4 5 rfl) (dk okLw_4 6 rfl) (dk okLw_4 7 rfl) (dk okLw_4 8 rfl) ?_
  refine J_callVi (As := [.int (xs (n + 1))]) (dk okLw_4 9 rfl) ds_49 rfl vkX12_steps lkL_71 rfl rfl (Nat.le_of_ble_eq_true rfl) (Nat.le_of_ble_eq_true rfl) (con_X12_steps c2 ⟨_, rfl, ?_⟩)
  exact J_icmp_eq (tgt := 1460) (dk okLw_4 10 rfl) (by decide) (fun _ => k σ' R' _ c4) (fun y => absurd c3 y)
theorem lc_10 (hG : LG b L xs G) (hn : n + 5 ≤ L) (h : Sim σ R μ) (k : ∀ σ R μ, Sim σ R μ → J E G 130 mL_law QF 1460 (lwl E b n) [] μ) : J E G 130 mL_law QF 585 (lwl E b n) [] μ := by
  obtain ⟨c1, c2, c3, σ', R', c4⟩ := call_turnsTo h (xs (n + 1)) (xs (n + 2))
  refine J_aload_n (dk okLw_4 13 rfl) 1 rfl rfl ?_
  refine J_arg hG hn (j := 1) (by omega) 0 4 rfl rfl (by decide) (dk okLw_4 14 rfl) (dk okLw_4 15 rfl) (dk okLw_4 16 rfl) (dk okLw_4 17 rfl) (dk okLw_4 18 rfl) ?_
  refine J_arg hG hn (j := 2) (by omega) 0 4 rfl rfl (by decide) (dk okLw_4 19 rfl) (dk okLw_4 20 rfl) (dk okLw_4 21 rfl) (dk okLw_4 22 rfl) (dk okLw_4 23 rfl) ?_
  refine J_callVi (As := [.int (xs (n + 1)), .int (xs (n + 2))]) (dk okLw_4 24 rfl) ds_0 rfl vkX11_turnsTo lkL_72 rfl rfl (Nat.le_of_ble_eq_true rfl) (Nat.le_of_ble_eq_true rfl) (con_X11_turnsTo c1 ⟨_, rfl, ?_⟩)
  refine J_aload_n (dk okLw_4 25 rfl) 2 rfl rfl ?_
  refine J_arg hG hn (j := 1) (by omega) 0 4 rfl rfl (by decide) (dk okLw_4 26 rfl) (dk okLw_4 27 rfl) (dk okLw_4 28 rfl) (dk okLw_4 29 rfl) (dk okLw_4 30 rfl) ?_
  refine J_arg hG hn (j := 2) (by omega) 0 4 rfl rfl (by decide) (dk okLw_4 31 rfl) (dk okLw_4 32 rfl) (dk okLw_4 33 rfl) (dk okLw_4 34 rfl) (dk okLw_4 35 rfl) ?_
  refine J_callVi (As := [.int (xs (n + 1)), .int (xs (n + 2))]) (dk okLw_4 36 rfl) ds_49 rfl vkX12_turnsTo lkL_75 rfl rfl (Nat.le_of_ble_eq_true rfl) (Nat.le_of_ble_eq_true rfl) (con_X12_turnsTo c2 ⟨_, rfl, ?_⟩)
  exact J_icmp_eq (tgt := 1460) (dk okLw_4 37 rfl) (by decide) (fun _ => k σ' R' _ c4) (fun y => absurd c3 y)
theorem lc_11 (hG : LG b L xs G) (hn : n + 5 ≤ L) (h : Sim σ R μ) (k : ∀ σ R μ, Sim σ R μ → J E G 130 mL_law QF 1460 (lwl E b n) [] μ) : J E G 130 mL_law QF 622 (lwl E b n) [] μ := by
  obtain ⟨c1, c2, c3, σ', R', c4⟩ := call_noon h (xs (n + 1))
  refine J_aload_n (dk okLw_4 40 rfl) 1 rfl rfl ?_
  refine J_arg hG hn (j := 1) (by omega) 0 4 rfl rfl (by decide) (dk okLw_4 41 rfl) (dk okLw_4 42 rfl) (dk okLw_4 43 rfl) (dk okLw_4 44 rfl) (dk okLw_4 45 rfl) ?_
  refine J_callVi (As := [.int (xs (n + 1))]) (dk okLw_4 46 rfl) ds_0 rfl vkX11_noon lkL_76 rfl rfl (Nat.le_of_ble_eq_true rfl) (Nat.le_of_ble_eq_true rfl) (con_X11_noon c1 ⟨_, rfl, ?_⟩)
  refine J_aload_n (dk okLw_4 47 rfl) 2 rfl rfl ?_
  refine J_arg hG hn (j := 1) (by omega) 0 4 rfl rfl (by decide) (dk okLw_4 48 rfl) (dk okLw_4 49 rfl) (dk okLw_4 50 rfl) (dk okLw_4 51 rfl) (dk okLw_4 52 rfl) ?_
  refine J_callVi (As := [.int (xs (n + 1))]) (dk okLw_4 53 rfl) ds_49 rfl vkX12_noon lkL_79 rfl rfl (Nat.le_of_ble_eq_true rfl) (Nat.le_of_ble_eq_true rfl) (con_X12_noon c2 ⟨_, rfl, ?_⟩)
  exact J_icmp_eq (tgt := 1460) (dk okLw_4 54 rfl) (by decide) (fun _ => k σ' R' _ c4) (fun y => absurd c3 y)
theorem lc_12 (hG : LG b L xs G) (hn : n + 5 ≤ L) (h : Sim σ R μ) (k : ∀ σ R μ, Sim σ R μ → J E G 130 mL_law QF 1460 (lwl E b n) [] μ) : J E G 130 mL_law QF 647 (lwl E b n) [] μ := by
  obtain ⟨c1, c2, c3, σ', R', c4⟩ := call_morning h
  refine J_aload_n (dk okLw_4 57 rfl) 1 rfl rfl ?_
  refine J_callVi (As := []) (dk okLw_4 58 rfl) ds_0 rfl vkX11_morning lkL_80 rfl rfl (Nat.le_of_ble_eq_true rfl) (Nat.le_of_ble_eq_true rfl) (con_X11_morning c1 ⟨_, rfl, ?_⟩)
  refine J_aload_n (dk okLw_4 59 rfl) 2 rfl rfl ?_
  refine J_callVi (As := []) (dk okLw_5 0 rfl) ds_49 rfl vkX12_morning lkL_83 rfl rfl (Nat.le_of_ble_eq_true rfl) (Nat.le_of_ble_eq_true rfl) (con_X12_morning c2 ⟨_, rfl, ?_⟩)
  exact J_icmp_eq (tgt := 1460) (dk okLw_5 1 rfl) (by decide) (fun _ => k σ' R' _ c4) (fun y => absurd c3 y)
theorem lc_13 (hG : LG b L xs G) (hn : n + 5 ≤ L) (h : Sim σ R μ) (k : ∀ σ R μ, Sim σ R μ → J E G 130 mL_law QF 1460 (lwl E b n) [] μ) : J E G 130 mL_law QF 660 (lwl E b n) [] μ := by
  obtain ⟨c1, c2, c3, σ', R', c4⟩ := call_undo h
  refine J_aload_n (dk okLw_5 4 rfl) 1 rfl rfl ?_
  refine J_callVi (As := []) (dk okLw_5 5 rfl) ds_0 rfl vkX11_undo lkL_84 rfl rfl (Nat.le_of_ble_eq_true rfl) (Nat.le_of_ble_eq_true rfl) (con_X11_undo c1 ⟨_, rfl, ?_⟩)
  refine J_aload_n (dk okLw_5 6 rfl) 2 rfl rfl ?_
  refine J_callVi (As := []) (dk okLw_5 7 rfl) ds_49 rfl vkX12_undo lkL_87 rfl rfl (Nat.le_of_ble_eq_true rfl) (Nat.le_of_ble_eq_true rfl) (con_X12_undo c2 ⟨_, rfl, ?_⟩)
  exact J_icmp_eq (tgt := 1460) (dk okLw_5 8 rfl) (by decide) (fun _ => k σ' R' _ c4) (fun y => absurd c3 y)
theorem lc_14 (hG : LG b L xs G) (hn : n + 5 ≤ L) (h : Sim σ R μ) (k : ∀ σ R μ, Sim σ R μ → J E G 130 mL_law QF 1460 (lwl E b n) [] μ) : J E G 130 mL_law QF 673 (lwl E b n) [] μ := by
  obtain ⟨c1, c2, c3, σ', R', c4⟩ := call_tips h
  refine J_aload_n (dk okLw_5 11 rfl) 1 rfl rfl ?_
  refine J_callVi (As := []) (dk okLw_5 12 rfl) ds_0 rfl vkX11_tips lkL_88 rfl rfl (Nat.le_of_ble_eq_true rfl) (Nat.le_of_ble_eq_true rfl) (con_X11_tips c1 ⟨_, rfl, ?_⟩)
  refine J_aload_n (dk okLw_5 13 rfl) 2 rfl rfl ?_
  refine J_callVi (As := []) (dk okLw_5 14 rfl) ds_49 rfl vkX12_tips lkL_91 rfl rfl (Nat.le_of_ble_eq_true rfl) (Nat.le_of_ble_eq_true rfl) (con_X12_tips c2 ⟨_, rfl, ?_⟩)
  exact J_icmp_eq (tgt := 1460) (dk okLw_5 15 rfl) (by decide) (fun _ => k σ' R' _ c4) (fun y => absurd c3 y)
theorem lc_15 (hG : LG b L xs G) (hn : n + 5 ≤ L) (h : Sim σ R μ) (k : ∀ σ R μ, Sim σ R μ → J E G 130 mL_law QF 1460 (lwl E b n) [] μ) : J E G 130 mL_law QF 686 (lwl E b n) [] μ := by
  obtain ⟨c1, c2, c3, σ', R', c4⟩ := call_later h (xs (n + 1)) (xs (n + 2))
  refine J_aload_n (dk okLw_5 18 rfl) 1 rfl rfl ?_
  refine J_arg hG hn (j := 1) (by omega) 0 4 rfl rfl (by decide) (dk okLw_5 19 rfl) (dk okLw_5 20 rfl) (dk okLw_5 21 rfl) (dk okLw_5 22 rfl) (dk okLw_5 23 rfl) ?_
  refine J_arg hG hn (j := 2) (by omega) 0 4 rfl rfl (by decide) (dk okLw_5 24 rfl) (dk okLw_5 25 rfl) (dk okLw_5 26 rfl) (dk okLw_5 27 rfl) (dk okLw_5 28 rfl) ?_
  refine J_callVi (As := [.int (xs (n + 1)), .int (xs (n + 2))]) (dk okLw_5 29 rfl) ds_0 rfl vkX11_later lkL_92 rfl rfl (Nat.le_of_ble_eq_true rfl) (Nat.le_of_ble_eq_true rfl) (con_X11_later c1 ⟨_, rfl, ?_⟩)
  refine J_aload_n (dk okLw_5 30 rfl) 2 rfl rfl ?_
  refine J_arg hG hn (j := 1) (by omega) 0 4 rfl rfl (by decide) (dk okLw_5 31 rfl) (dk okLw_5 32 rfl) (dk okLw_5 33 rfl) (dk okLw_5 34 rfl) (dk okLw_5 35 rfl) ?_
  refine J_arg hG hn (j := 2) (by omega) 0 4 rfl rfl (by decide) (dk okLw_5 36 rfl) (dk okLw_5 37 rfl) (dk okLw_5 38 rfl) (dk okLw_5 39 rfl) (dk okLw_5 40 rfl) ?_
  refine J_callVi (As := [.int (xs (n + 1)), .int (xs (n + 2))]) (dk okLw_5 41 rfl) ds_49 rfl vkX12_later lkL_95 rfl rfl (Nat.le_of_ble_eq_true rfl) (Nat.le_of_ble_eq_true rfl) (con_X12_later c2 ⟨_, rfl, ?_⟩)
  exact J_icmp_eq (tgt := 1460) (dk okLw_5 42 rfl) (by decide) (fun _ => k σ' R' _ c4) (fun y => absurd c3 y)
theorem lc_16 (hG : LG b L xs G) (hn : n + 5 ≤ L) (h : Sim σ R μ) (k : ∀ σ R μ, Sim σ R μ → J E G 130 mL_law QF 1460 (lwl E b n) [] μ) : J E G 130 mL_law QF 723 (lwl E b n) [] μ := by
  obtain ⟨c1, c2, c3, σ', R', c4⟩ := call_decides h
  refine J_aload_n (dk okLw_5 45 rfl) 1 rfl rfl ?_
  refine J_callVi (As := []) (dk okLw_5 46 rfl) ds_0 rfl vkX11_decides lkL_96 rfl rfl (Nat.le_of_ble_eq_true rfl) (Nat.le_of_ble_eq_true rfl) (con_X11_decides c1 ⟨_, rfl, ?_⟩)
  refine J_aload_n (dk okLw_5 47 rfl) 2 rfl rfl ?_
  refine J_callVi (As := []) (dk okLw_5 48 rfl) ds_49 rfl vkX12_decides lkL_99 rfl rfl (Nat.le_of_ble_eq_true rfl) (Nat.le_of_ble_eq_true rfl) (con_X12_decides c2 ⟨_, rfl, ?_⟩)
  exact J_icmp_eq (tgt := 1460) (dk okLw_5 49 rfl) (by decide) (fun _ => k σ' R' _ c4) (fun y => absurd c3 y)
theorem lc_17 (hG : LG b L xs G) (hn : n + 5 ≤ L) (h : Sim σ R μ) (k : ∀ σ R μ, Sim σ R μ → J E G 130 mL_law QF 1460 (lwl E b n) [] μ) : J E G 130 mL_law QF 736 (lwl E b n) [] μ := by
  obtain ⟨c1, c2, c3, σ', R', c4⟩ := call_spares h
  refine J_aload_n (dk okLw_5 52 rfl) 1 rfl rfl ?_
  refine J_callVi (As := []) (dk okLw_5 53 rfl) ds_0 rfl vkX11_spares lkL_100 rfl rfl (Nat.le_of_ble_eq_true rfl) (Nat.le_of_ble_eq_true rfl) (con_X11_spares c1 ⟨_, rfl, ?_⟩)
  refine J_aload_n (dk okLw_5 54 rfl) 2 rfl rfl ?_
  refine J_callVi (As := []) (dk okLw_5 55 rfl) ds_49 rfl vkX12_spares lkL_103 rfl rfl (Nat.le_of_ble_eq_true rfl) (Nat.le_of_ble_eq_true rfl) (con_X12_spares c2 ⟨_, rfl, ?_⟩)
  exact J_icmp_eq (tgt := 1460) (dk okLw_5 56 rfl) (by decide) (fun _ => k σ' R' _ c4) (fun y => absurd c3 y)
theorem lc_18 (hG : LG b L xs G) (hn : n + 5 ≤ L) (h : Sim σ R μ) (k : ∀ σ R μ, Sim σ R μ → J E G 130 mL_law QF 1460 (lwl E b n) [] μ) : J E G 130 mL_law QF 749 (lwl E b n) [] μ := by
  obtain ⟨c1, c2, c3, σ', R', c4⟩ := call_swings h
  refine J_aload_n (dk okLw_5 59 rfl) 1 rfl rfl ?_
  refine J_callVi (As := []) (dk okLw_6 0 rfl) ds_0 rfl vkX11_swings lkL_104 rfl rfl (Nat.le_of_ble_eq_true rfl) (Nat.le_of_ble_eq_true rfl) (con_X11_swings c1 ⟨_, rfl, ?_⟩)
  refine J_aload_n (dk okLw_6 1 rfl) 2 rfl rfl ?_
  refine J_callVi (As := []) (dk okLw_6 2 rfl) ds_49 rfl vkX12_swings lkL_107 rfl rfl (Nat.le_of_ble_eq_true rfl) (Nat.le_of_ble_eq_true rfl) (con_X12_swings c2 ⟨_, rfl, ?_⟩)
  exact J_icmp_eq (tgt := 1460) (dk okLw_6 3 rfl) (by decide) (fun _ => k σ' R' _ c4) (fun y => absurd c3 y)
theorem lc_19 (hG : LG b L xs G) (hn : n + 5 ≤ L) (h : Sim σ R μ) (k : ∀ σ R μ, Sim σ R μ → J E G 130 mL_law QF 1460 (lwl E b n) [] μ) : J E G 130 mL_law QF 762 (lwl E b n) [] μ := by
  obtain ⟨c1, c2, c3, σ', R', c4⟩ := call_level h
  refine J_aload_n (dk okLw_6 6 rfl) 1 rfl rfl ?_
  refine J_callVi (As := []) (dk okLw_6 7 rfl) ds_0 rfl vkX11_level lkL_108 rfl rfl (Nat.le_of_ble_eq_true rfl) (Nat.le_of_ble_eq_true rfl) (con_X11_level c1 ⟨_, rfl, ?_⟩)
  refine J_aload_n (dk okLw_6 8 rfl) 2 rfl rfl ?_
  refine J_callVi (As := []) (dk okLw_6 9 rfl) ds_49 rfl vkX12_level lkL_111 rfl rfl (Nat.le_of_ble_eq_true rfl) (Nat.le_of_ble_eq_true rfl) (con_X12_level c2 ⟨_, rfl, ?_⟩)
  exact J_icmp_eq (tgt := 1460) (dk okLw_6 10 rfl) (by decide) (fun _ => k σ' R' _ c4) (fun y => absurd c3 y)
theorem lc_20 (hG : LG b L xs G) (hn : n + 5 ≤ L) (h : Sim σ R μ) (k : ∀ σ R μ, Sim σ R μ → J E G 130 mL_law QF 1460 (lwl E b n) [] μ) : J E G 130 mL_law QF 775 (lwl E b n) [] μ := by
  obtain ⟨c1, c2, c3, σ', R', c4⟩ := call_rest h
  refine J_aload_n (dk okLw_6 13 rfl) 1 rfl rfl ?_
  refine J_callVi (As := []) (dk okLw_6 14 rfl) ds_0 rfl vkX11_rest lkL_112 rfl rfl (Nat.le_of_ble_eq_true rfl) (Nat.le_of_ble_eq_true rfl) (con_X11_rest c1 ⟨_, rfl, ?_⟩)
  refine J_aload_n (dk okLw_6 15 rfl) 2 rfl rfl ?_
  refine J_callVi (As := []) (dk okLw_6 16 rfl) ds_49 rfl vkX12_rest lkL_115 rfl rfl (Nat.le_of_ble_eq_true rfl) (Nat.le_of_ble_eq_true rfl) (con_X12_rest c2 ⟨_, rfl, ?_⟩)
  exact J_icmp_eq (tgt := 1460) (dk okLw_6 17 rfl) (by decide) (fun _ => k σ' R' _ c4) (fun y => absurd c3 y)
theorem lc_21 (hG : LG b L xs G) (hn : n + 5 ≤ L) (h : Sim σ R μ) (k : ∀ σ R μ, Sim σ R μ → J E G 130 mL_law QF 1460 (lwl E b n) [] μ) : J E G 130 mL_law QF 788 (lwl E b n) [] μ := by
  obtain ⟨c1, c2, c3, σ', R', c4⟩ := call_walks h (xs (n + 1))
  refine J_aload_n (dk okLw_6 20 rfl) 1 rfl rfl ?_
  refine J_arg hG hn (j := 1) (by omega) 0 4 rfl rfl (by decide) (dk okLw_6 21 rfl) (dk okLw_6 22 rfl) (dk okLw_6 23 rfl) (dk okLw_6 24 rfl) (dk okLw_6 25 rfl) ?_
  refine J_callVi (As := [.int (xs (n + 1))]) (dk okLw_6 26 rfl) ds_0 rfl vkX11_walks lkL_116 rfl rfl (Nat.le_of_ble_eq_true rfl) (Nat.le_of_ble_eq_true rfl) (con_X11_walks c1 ⟨_, rfl, ?_⟩)
  refine J_aload_n (dk okLw_6 27 rfl) 2 rfl rfl ?_
  refine J_arg hG hn (j := 1) (by omega) 0 4 rfl rfl (by decide) (dk okLw_6 28 rfl) (dk okLw_6 29 rfl) (dk okLw_6 30 rfl) (dk okLw_6 31 rfl) (dk okLw_6 32 rfl) ?_
  refine J_callVi (As := [.int (xs (n + 1))]) (dk okLw_6 33 rfl) ds_49 rfl vkX12_walks lkL_119 rfl rfl (Nat.le_of_ble_eq_true rfl) (Nat.le_of_ble_eq_true rfl) (con_X12_walks c2 ⟨_, rfl, ?_⟩)
  exact J_icmp_eq (tgt := 1460) (dk okLw_6 34 rfl) (by decide) (fun _ => k σ' R' _ c4) (fun y => absurd c3 y)
theorem lc_22 (hG : LG b L xs G) (hn : n + 5 ≤ L) (h : Sim σ R μ) (k : ∀ σ R μ, Sim σ R μ → J E G 130 mL_law QF 1460 (lwl E b n) [] μ) : J E G 130 mL_law QF 813 (lwl E b n) [] μ := by
  obtain ⟨c1, c2, c3, σ', R', c4⟩ := call_wall h
  refine J_aload_n (dk okLw_6 37 rfl) 1 rfl rfl ?_
  refine J_callVi (As := []) (dk okLw_6 38 rfl) ds_0 rfl vkX11_wall lkL_120 rfl rfl (Nat.le_of_ble_eq_true rfl) (Nat.le_of_ble_eq_true rfl) (con_X11_wall c1 ⟨_, rfl, ?_⟩)
  refine J_aload_n (dk okLw_6 39 rfl) 2 rfl rfl ?_
  refine J_callVi (As := []) (dk okLw_6 40 rfl) ds_49 rfl vkX12_wall lkL_123 rfl rfl (Nat.le_of_ble_eq_true rfl) (Nat.le_of_ble_eq_true rfl) (con_X12_wall c2 ⟨_, rfl, ?_⟩)
  exact J_icmp_eq (tgt := 1460) (dk okLw_6 41 rfl) (by decide) (fun _ => k σ' R' _ c4) (fun y => absurd c3 y)
theorem lc_23 (hG : LG b L xs G) (hn : n + 5 ≤ L) (h : Sim σ R μ) (k : ∀ σ R μ, Sim σ R μ → J E G 130 mL_law QF 1460 (lwl E b n) [] μ) : J E G 130 mL_law QF 826 (lwl E b n) [] μ := by
  obtain ⟨c1, c2, c3, σ', R', c4⟩ := call_bears h (xs (n + 1))
  refine J_aload_n (dk okLw_6 44 rfl) 1 rfl rfl ?_
  refine J_arg hG hn (j := 1) (by omega) 0 4 rfl rfl (by decide) (dk okLw_6 45 rfl) (dk okLw_6 46 rfl) (dk okLw_6 47 rfl) (dk okLw_6 48 rfl) (dk okLw_6 49 rfl) ?_
  refine J_callVi (As := [.int (xs (n + 1))]) (dk okLw_6 50 rfl) ds_0 rfl vkX11_bears lkL_124 rfl rfl (Nat.le_of_ble_eq_true rfl) (Nat.le_of_ble_eq_true rfl) (con_X11_bears c1 ⟨_, rfl, ?_⟩)
  refine J_aload_n (dk okLw_6 51 rfl) 2 rfl rfl ?_
  refine J_arg hG hn (j := 1) (by omega) 0 4 rfl rfl (by decide) (dk okLw_6 52 rfl) (dk okLw_6 53 rfl) (dk okLw_6 54 rfl) (dk okLw_6 55 rfl) (dk okLw_6 56 rfl) ?_
  refine J_callVi (As := [.int (xs (n + 1))]) (dk okLw_6 57 rfl) ds_49 rfl vkX12_bears lkL_127 rfl rfl (Nat.le_of_ble_eq_true rfl) (Nat.le_of_ble_eq_true rfl) (con_X12_bears c2 ⟨_, rfl, ?_⟩)
  exact J_icmp_eq (tgt := 1460) (dk okLw_6 58 rfl) (by decide) (fun _ => k σ' R' _ c4) (fun y => absurd c3 y)
theorem lc_24 (hG : LG b L xs G) (hn : n + 5 ≤ L) (h : Sim σ R μ) (k : ∀ σ R μ, Sim σ R μ → J E G 130 mL_law QF 1460 (lwl E b n) [] μ) : J E G 130 mL_law QF 851 (lwl E b n) [] μ := by
  obtain ⟨c1, c2, c3, σ', R', c4⟩ := call_canvass h
  refine J_aload_n (dk okLw_7 1 rfl) 1 rfl rfl ?_
  refine J_callVi (As := []) (dk okLw_7 2 rfl) ds_0 rfl vkX11_canvass lkL_128 rfl rfl (Nat.le_of_ble_eq_true rfl) (Nat.le_of_ble_eq_true rfl) (con_X11_canvass c1 ⟨_, rfl, ?_⟩)
  refine J_aload_n (dk okLw_7 3 rfl) 2 rfl rfl ?_
  refine J_callVi (As := []) (dk okLw_7 4 rfl) ds_49 rfl vkX12_canvass lkL_131 rfl rfl (Nat.le_of_ble_eq_true rfl) (Nat.le_of_ble_eq_true rfl) (con_X12_canvass c2 ⟨_, rfl, ?_⟩)
  exact J_icmp_eq (tgt := 1460) (dk okLw_7 5 rfl) (by decide) (fun _ => k σ' R' _ c4) (fun y => absurd c3 y)
theorem lc_25 (hG : LG b L xs G) (hn : n + 5 ≤ L) (h : Sim σ R μ) (k : ∀ σ R μ, Sim σ R μ → J E G 130 mL_law QF 1460 (lwl E b n) [] μ) : J E G 130 mL_law QF 864 (lwl E b n) [] μ := by
  obtain ⟨c1, c2, c3, σ', R', c4⟩ := call_clears h
  refine J_aload_n (dk okLw_7 8 rfl) 1 rfl rfl ?_
  refine J_callVi (As := []) (dk okLw_7 9 rfl) ds_0 rfl vkX11_clears lkL_132 rfl rfl (Nat.le_of_ble_eq_true rfl) (Nat.le_of_ble_eq_true rfl) (con_X11_clears c1 ⟨_, rfl, ?_⟩)
  refine J_aload_n (dk okLw_7 10 rfl) 2 rfl rfl ?_
  refine J_callVi (As := []) (dk okLw_7 11 rfl) ds_49 rfl vkX12_clears lkL_135 rfl rfl (Nat.le_of_ble_eq_true rfl) (Nat.le_of_ble_eq_true rfl) (con_X12_clears c2 ⟨_, rfl, ?_⟩)
  exact J_icmp_eq (tgt := 1460) (dk okLw_7 12 rfl) (by decide) (fun _ => k σ' R' _ c4) (fun y => absurd c3 y)
theorem lc_26 (hG : LG b L xs G) (hn : n + 5 ≤ L) (h : Sim σ R μ) (k : ∀ σ R μ, Sim σ R μ → J E G 130 mL_law QF 1460 (lwl E b n) [] μ) : J E G 130 mL_law QF 877 (lwl E b n) [] μ := by
  obtain ⟨c1, c2, c3, σ', R', c4⟩ := call_heads h
  refine J_aload_n (dk okLw_7 15 rfl) 1 rfl rfl ?_
  refine J_callVi (As := []) (dk okLw_7 16 rfl) ds_0 rfl vkX11_heads lkL_136 rfl rfl (Nat.le_of_ble_eq_true rfl) (Nat.le_of_ble_eq_true rfl) (con_X11_heads c1 ⟨_, rfl, ?_⟩)
  refine J_aload_n (dk okLw_7 17 rfl) 2 rfl rfl ?_
  refine J_callVi (As := []) (dk okLw_7 18 rfl) ds_49 rfl vkX12_heads lkL_139 rfl rfl (Nat.le_of_ble_eq_true rfl) (Nat.le_of_ble_eq_true rfl) (con_X12_heads c2 ⟨_, rfl, ?_⟩)
  exact J_icmp_eq (tgt := 1460) (dk okLw_7 19 rfl) (by decide) (fun _ => k σ' R' _ c4) (fun y => absurd c3 y)
theorem lc_27 (hG : LG b L xs G) (hn : n + 5 ≤ L) (h : Sim σ R μ) (k : ∀ σ R μ, Sim σ R μ → J E G 130 mL_law QF 1460 (lwl E b n) [] μ) : J E G 130 mL_law QF 890 (lwl E b n) [] μ := by
  obtain ⟨c1, c2, c3, σ', R', c4⟩ := call_power h (xs (n + 1))
  refine J_aload_n (dk okLw_7 22 rfl) 1 rfl rfl ?_
  refine J_arg hG hn (j := 1) (by omega) 0 4 rfl rfl (by decide) (dk okLw_7 23 rfl) (dk okLw_7 24 rfl) (dk okLw_7 25 rfl) (dk okLw_7 26 rfl) (dk okLw_7 27 rfl) ?_
  refine J_callVi (As := [.int (xs (n + 1))]) (dk okLw_7 28 rfl) ds_0 rfl vkX11_power lkL_140 rfl rfl (Nat.le_of_ble_eq_true rfl) (Nat.le_of_ble_eq_true rfl) (con_X11_power c1 ⟨_, rfl, ?_⟩)
  refine J_aload_n (dk okLw_7 29 rfl) 2 rfl rfl ?_
  refine J_arg hG hn (j := 1) (by omega) 0 4 rfl rfl (by decide) (dk okLw_7 30 rfl) (dk okLw_7 31 rfl) (dk okLw_7 32 rfl) (dk okLw_7 33 rfl) (dk okLw_7 34 rfl) ?_
  refine J_callVi (As := [.int (xs (n + 1))]) (dk okLw_7 35 rfl) ds_49 rfl vkX12_power lkL_143 rfl rfl (Nat.le_of_ble_eq_true rfl) (Nat.le_of_ble_eq_true rfl) (con_X12_power c2 ⟨_, rfl, ?_⟩)
  exact J_icmp_eq (tgt := 1460) (dk okLw_7 36 rfl) (by decide) (fun _ => k σ' R' _ c4) (fun y => absurd c3 y)
theorem lc_28 (hG : LG b L xs G) (hn : n + 5 ≤ L) (h : Sim σ R μ) (k : ∀ σ R μ, Sim σ R μ → J E G 130 mL_law QF 1460 (lwl E b n) [] μ) : J E G 130 mL_law QF 915 (lwl E b n) [] μ := by
  obtain ⟨c1, c2, c3, σ', R', c4⟩ := call_strongest h
  refine J_aload_n (dk okLw_7 39 rfl) 1 rfl rfl ?_
  refine J_callVi (As := []) (dk okLw_7 40 rfl) ds_0 rfl vkX11_strongest lkL_144 rfl rfl (Nat.le_of_ble_eq_true rfl) (Nat.le_of_ble_eq_true rfl) (con_X11_strongest c1 ⟨_, rfl, ?_⟩)
  refine J_aload_n (dk okLw_7 41 rfl) 2 rfl rfl ?_
  refine J_callVi (As := []) (dk okLw_7 42 rfl) ds_49 rfl vkX12_strongest lkL_147 rfl rfl (Nat.le_of_ble_eq_true rfl) (Nat.le_of_ble_eq_true rfl) (con_X12_strongest c2 ⟨_, rfl, ?_⟩)
  exact J_icmp_eq (tgt := 1460) (dk okLw_7 43 rfl) (by decide) (fun _ => k σ' R' _ c4) (fun y => absurd c3 y)
theorem lc_29 (hG : LG b L xs G) (hn : n + 5 ≤ L) (h : Sim σ R μ) (k : ∀ σ R μ, Sim σ R μ → J E G 130 mL_law QF 1460 (lwl E b n) [] μ) : J E G 130 mL_law QF 928 (lwl E b n) [] μ := by
  obtain ⟨c1, c2, c3, σ', R', c4⟩ := call_just h (xs (n + 1))
  refine J_aload_n (dk okLw_7 46 rfl) 1 rfl rfl ?_
  refine J_arg hG hn (j := 1) (by omega) 0 4 rfl rfl (by decide) (dk okLw_7 47 rfl) (dk okLw_7 48 rfl) (dk okLw_7 49 rfl) (dk okLw_7 50 rfl) (dk okLw_7 51 rfl) ?_
  refine J_callVi (As := [.int (xs (n + 1))]) (dk okLw_7 52 rfl) ds_0 rfl vkX11_just lkL_148 rfl rfl (Nat.le_of_ble_eq_true rfl) (Nat.le_of_ble_eq_true rfl) (con_X11_just c1 ⟨_, rfl, ?_⟩)
  refine J_aload_n (dk okLw_7 53 rfl) 2 rfl rfl ?_
  refine J_arg hG hn (j := 1) (by omega) 0 4 rfl rfl (by decide) (dk okLw_7 54 rfl) (dk okLw_7 55 rfl) (dk okLw_7 56 rfl) (dk okLw_7 57 rfl) (dk okLw_7 58 rfl) ?_
  refine J_callVi (As := [.int (xs (n + 1))]) (dk okLw_7 59 rfl) ds_49 rfl vkX12_just lkL_151 rfl rfl (Nat.le_of_ble_eq_true rfl) (Nat.le_of_ble_eq_true rfl) (con_X12_just c2 ⟨_, rfl, ?_⟩)
  exact J_icmp_eq (tgt := 1460) (dk okLw_8 0 rfl) (by decide) (fun _ => k σ' R' _ c4) (fun y => absurd c3 y)
theorem lc_30 (hG : LG b L xs G) (hn : n + 5 ≤ L) (h : Sim σ R μ) (k : ∀ σ R μ, Sim σ R μ → J E G 130 mL_law QF 1460 (lwl E b n) [] μ) : J E G 130 mL_law QF 953 (lwl E b n) [] μ := by
  obtain ⟨c1, c2, c3, σ', R', c4⟩ := call_farthest h
  refine J_aload_n (dk okLw_8 3 rfl) 1 rfl rfl ?_
  refine J_callVi (As := []) (dk okLw_8 4 rfl) ds_0 rfl vkX11_farthest lkL_152 rfl rfl (Nat.le_of_ble_eq_true rfl) (Nat.le_of_ble_eq_true rfl) (con_X11_farthest c1 ⟨_, rfl, ?_⟩)
  refine J_aload_n (dk okLw_8 5 rfl) 2 rfl rfl ?_
  refine J_callVi (As := []) (dk okLw_8 6 rfl) ds_49 rfl vkX12_farthest lkL_155 rfl rfl (Nat.le_of_ble_eq_true rfl) (Nat.le_of_ble_eq_true rfl) (con_X12_farthest c2 ⟨_, rfl, ?_⟩)
  exact J_icmp_eq (tgt := 1460) (dk okLw_8 7 rfl) (by decide) (fun _ => k σ' R' _ c4) (fun y => absurd c3 y)
theorem lc_31 (hG : LG b L xs G) (hn : n + 5 ≤ L) (h : Sim σ R μ) (k : ∀ σ R μ, Sim σ R μ → J E G 130 mL_law QF 1460 (lwl E b n) [] μ) : J E G 130 mL_law QF 966 (lwl E b n) [] μ := by
  obtain ⟨c1, c2, c3, σ', R', c4⟩ := call_line h
  refine J_aload_n (dk okLw_8 10 rfl) 1 rfl rfl ?_
  refine J_callVi (As := []) (dk okLw_8 11 rfl) ds_0 rfl vkX11_line lkL_156 rfl rfl (Nat.le_of_ble_eq_true rfl) (Nat.le_of_ble_eq_true rfl) (con_X11_line c1 ⟨_, rfl, ?_⟩)
  refine J_aload_n (dk okLw_8 12 rfl) 2 rfl rfl ?_
  refine J_callVi (As := []) (dk okLw_8 13 rfl) ds_49 rfl vkX12_line lkL_159 rfl rfl (Nat.le_of_ble_eq_true rfl) (Nat.le_of_ble_eq_true rfl) (con_X12_line c2 ⟨_, rfl, ?_⟩)
  exact J_icmp_eq (tgt := 1460) (dk okLw_8 14 rfl) (by decide) (fun _ => k σ' R' _ c4) (fun y => absurd c3 y)
theorem lc_32 (hG : LG b L xs G) (hn : n + 5 ≤ L) (h : Sim σ R μ) (k : ∀ σ R μ, Sim σ R μ → J E G 130 mL_law QF 1460 (lwl E b n) [] μ) : J E G 130 mL_law QF 979 (lwl E b n) [] μ := by
  obtain ⟨c1, c2, c3, σ', R', c4⟩ := call_backs h
  refine J_aload_n (dk okLw_8 17 rfl) 1 rfl rfl ?_
  refine J_callVi (As := []) (dk okLw_8 18 rfl) ds_0 rfl vkX11_backs lkL_160 rfl rfl (Nat.le_of_ble_eq_true rfl) (Nat.le_of_ble_eq_true rfl) (con_X11_backs c1 ⟨_, rfl, ?_⟩)
  refine J_aload_n (dk okLw_8 19 rfl) 2 rfl rfl ?_
  refine J_callVi (As := []) (dk okLw_8 20 rfl) ds_49 rfl vkX12_backs lkL_163 rfl rfl (Nat.le_of_ble_eq_true rfl) (Nat.le_of_ble_eq_true rfl) (con_X12_backs c2 ⟨_, rfl, ?_⟩)
  exact J_icmp_eq (tgt := 1460) (dk okLw_8 21 rfl) (by decide) (fun _ => k σ' R' _ c4) (fun y => absurd c3 y)
theorem lc_33 (hG : LG b L xs G) (hn : n + 5 ≤ L) (h : Sim σ R μ) (k : ∀ σ R μ, Sim σ R μ → J E G 130 mL_law QF 1460 (lwl E b n) [] μ) : J E G 130 mL_law QF 992 (lwl E b n) [] μ := by
  obtain ⟨c1, c2, c3, σ', R', c4⟩ := call_crowd h
  refine J_aload_n (dk okLw_8 24 rfl) 1 rfl rfl ?_
  refine J_callVi (As := []) (dk okLw_8 25 rfl) ds_0 rfl vkX11_crowd lkL_164 rfl rfl (Nat.le_of_ble_eq_true rfl) (Nat.le_of_ble_eq_true rfl) (con_X11_crowd c1 ⟨_, rfl, ?_⟩)
  refine J_aload_n (dk okLw_8 26 rfl) 2 rfl rfl ?_
  refine J_callVi (As := []) (dk okLw_8 27 rfl) ds_49 rfl vkX12_crowd lkL_167 rfl rfl (Nat.le_of_ble_eq_true rfl) (Nat.le_of_ble_eq_true rfl) (con_X12_crowd c2 ⟨_, rfl, ?_⟩)
  exact J_icmp_eq (tgt := 1460) (dk okLw_8 28 rfl) (by decide) (fun _ => k σ' R' _ c4) (fun y => absurd c3 y)
theorem lc_34 (hG : LG b L xs G) (hn : n + 5 ≤ L) (h : Sim σ R μ) (k : ∀ σ R μ, Sim σ R μ → J E G 130 mL_law QF 1460 (lwl E b n) [] μ) : J E G 130 mL_law QF 1005 (lwl E b n) [] μ := by
  obtain ⟨c1, c2, c3, σ', R', c4⟩ := call_seen h (xs (n + 1)) (xs (n + 2)) (xs (n + 3))
  refine J_aload_n (dk okLw_8 31 rfl) 1 rfl rfl ?_
  refine J_arg hG hn (j := 1) (by omega) 0 4 rfl rfl (by decide) (dk okLw_8 32 rfl) (dk okLw_8 33 rfl) (dk okLw_8 34 rfl) (dk okLw_8 35 rfl) (dk okLw_8 36 rfl) ?_
  refine J_arg hG hn (j := 2) (by omega) 0 4 rfl rfl (by decide) (dk okLw_8 37 rfl) (dk okLw_8 38 rfl) (dk okLw_8 39 rfl) (dk okLw_8 40 rfl) (dk okLw_8 41 rfl) ?_
  refine J_arg hG hn (j := 3) (by omega) 0 4 rfl rfl (by decide) (dk okLw_8 42 rfl) (dk okLw_8 43 rfl) (dk okLw_8 44 rfl) (dk okLw_8 45 rfl) (dk okLw_8 46 rfl) ?_
  refine J_callVi (As := [.int (xs (n + 1)), .int (xs (n + 2)), .int (xs (n + 3))]) (dk okLw_8 47 rfl) ds_0 rfl vkX11_seen lkL_168 rfl rfl (Nat.le_of_ble_eq_true rfl) (Nat.le_of_ble_eq_true rfl) (con_X11_seen c1 ⟨_, rfl, ?_⟩)
  refine J_aload_n (dk okLw_8 48 rfl) 2 rfl rfl ?_
  refine J_arg hG hn (j := 1) (by omega) 0 4 rfl rfl (by decide) (dk okLw_8 49 rfl) (dk okLw_8 50 rfl) (dk okLw_8 51 rfl) (dk okLw_8 52 rfl) (dk okLw_8 53 rfl) ?_
  refine J_arg hG hn (j := 2) (by omega) 0 4 rfl rfl (by decide) (dk okLw_8 54 rfl) (dk okLw_8 55 rfl) (dk okLw_8 56 rfl) (dk okLw_8 57 rfl) (dk okLw_8 58 rfl) ?_
  refine J_arg hG hn (j := 3) (by omega) 0 4 rfl rfl (by decide) (dk okLw_8 59 rfl) (dk okLw_9 0 rfl) (dk okLw_9 1 rfl) (dk okLw_9 2 rfl) (dk okLw_9 3 rfl) ?_
  refine J_callVi (As := [.int (xs (n + 1)), .int (xs (n + 2)), .int (xs (n + 3))]) (dk okLw_9 4 rfl) ds_49 rfl vkX12_seen lkL_172 rfl rfl (Nat.le_of_ble_eq_true rfl) (Nat.le_of_ble_eq_true rfl) (con_X12_seen c2 ⟨_, rfl, ?_⟩)
  exact J_icmp_eq (tgt := 1460) (dk okLw_9 5 rfl) (by decide) (fun _ => k σ' R' _ c4) (fun y => absurd c3 y)
theorem lc_35 (hG : LG b L xs G) (hn : n + 5 ≤ L) (h : Sim σ R μ) (k : ∀ σ R μ, Sim σ R μ → J E G 130 mL_law QF 1460 (lwl E b n) [] μ) : J E G 130 mL_law QF 1054 (lwl E b n) [] μ := by
  obtain ⟨c1, c2, c3, σ', R', c4⟩ := call_forget h
  refine J_aload_n (dk okLw_9 8 rfl) 1 rfl rfl ?_
  refine J_callVi (As := []) (dk okLw_9 9 rfl) ds_0 rfl vkX11_forget lkL_173 rfl rfl (Nat.le_of_ble_eq_true rfl) (Nat.le_of_ble_eq_true rfl) (con_X11_forget ⟨_, rfl, ?_⟩)
  refine J_aload_n (dk okLw_9 10 rfl) 2 rfl rfl ?_
  refine J_callVi (As := []) (dk okLw_9 11 rfl) ds_49 rfl vkX12_forget lkL_176 rfl rfl (Nat.le_of_ble_eq_true rfl) (Nat.le_of_ble_eq_true rfl) (con_X12_forget ⟨_, rfl, ?_⟩)
  exact J_icmp_eq (tgt := 1460) (dk okLw_9 12 rfl) (by decide) (fun _ => k σ' R' _ c4) (fun y => absurd c3 y)
theorem lc_36 (hG : LG b L xs G) (hn : n + 5 ≤ L) (h : Sim σ R μ) (k : ∀ σ R μ, Sim σ R μ → J E G 130 mL_law QF 1460 (lwl E b n) [] μ) : J E G 130 mL_law QF 1067 (lwl E b n) [] μ := by
  obtain ⟨c1, c2, c3, σ', R', c4⟩ := call_cares h (xs (n + 1))
  refine J_aload_n (dk okLw_9 15 rfl) 1 rfl rfl ?_
  refine J_arg hG hn (j := 1) (by omega) 0 4 rfl rfl (by decide) (dk okLw_9 16 rfl) (dk okLw_9 17 rfl) (dk okLw_9 18 rfl) (dk okLw_9 19 rfl) (dk okLw_9 20 rfl) ?_
  refine J_callVi (As := [.int (xs (n + 1))]) (dk okLw_9 21 rfl) ds_0 rfl vkX11_cares lkL_177 rfl rfl (Nat.le_of_ble_eq_true rfl) (Nat.le_of_ble_eq_true rfl) (con_X11_cares c1 ⟨_, rfl, ?_⟩)
  refine J_aload_n (dk okLw_9 22 rfl) 2 rfl rfl ?_
  refine J_arg hG hn (j := 1) (by omega) 0 4 rfl rfl (by decide) (dk okLw_9 23 rfl) (dk okLw_9 24 rfl) (dk okLw_9 25 rfl) (dk okLw_9 26 rfl) (dk okLw_9 27 rfl) ?_
  refine J_callVi (As := [.int (xs (n + 1))]) (dk okLw_9 28 rfl) ds_49 rfl vkX12_cares lkL_180 rfl rfl (Nat.le_of_ble_eq_true rfl) (Nat.le_of_ble_eq_true rfl) (con_X12_cares c2 ⟨_, rfl, ?_⟩)
  exact J_icmp_eq (tgt := 1460) (dk okLw_9 29 rfl) (by decide) (fun _ => k σ' R' _ c4) (fun y => absurd c3 y)
theorem lc_37 (hG : LG b L xs G) (hn : n + 5 ≤ L) (h : Sim σ R μ) (k : ∀ σ R μ, Sim σ R μ → J E G 130 mL_law QF 1460 (lwl E b n) [] μ) : J E G 130 mL_law QF 1092 (lwl E b n) [] μ := by
  obtain ⟨c1, c2, c3, σ', R', c4⟩ := call_looks h (xs (n + 1))
  refine J_aload_n (dk okLw_9 32 rfl) 1 rfl rfl ?_
  refine J_arg hG hn (j := 1) (by omega) 0 4 rfl rfl (by decide) (dk okLw_9 33 rfl) (dk okLw_9 34 rfl) (dk okLw_9 35 rfl) (dk okLw_9 36 rfl) (dk okLw_9 37 rfl) ?_
  refine J_callVi (As := [.int (xs (n + 1))]) (dk okLw_9 38 rfl) ds_0 rfl vkX11_looks lkL_181 rfl rfl (Nat.le_of_ble_eq_true rfl) (Nat.le_of_ble_eq_true rfl) (con_X11_looks c1 ⟨_, rfl, ?_⟩)
  refine J_aload_n (dk okLw_9 39 rfl) 2 rfl rfl ?_
  refine J_arg hG hn (j := 1) (by omega) 0 4 rfl rfl (by decide) (dk okLw_9 40 rfl) (dk okLw_9 41 rfl) (dk okLw_9 42 rfl) (dk okLw_9 43 rfl) (dk okLw_9 44 rfl) ?_
  refine J_callVi (As := [.int (xs (n + 1))]) (dk okLw_9 45 rfl) ds_49 rfl vkX12_looks lkL_184 rfl rfl (Nat.le_of_ble_eq_true rfl) (Nat.le_of_ble_eq_true rfl) (con_X12_looks c2 ⟨_, rfl, ?_⟩)
  exact J_icmp_eq (tgt := 1460) (dk okLw_9 46 rfl) (by decide) (fun _ => k σ' R' _ c4) (fun y => absurd c3 y)
theorem lc_38 (hG : LG b L xs G) (hn : n + 5 ≤ L) (h : Sim σ R μ) (k : ∀ σ R μ, Sim σ R μ → J E G 130 mL_law QF 1460 (lwl E b n) [] μ) : J E G 130 mL_law QF 1117 (lwl E b n) [] μ := by
  obtain ⟨c1, c2, c3, σ', R', c4⟩ := call_heard h (xs (n + 1)) (xs (n + 2))
  refine J_aload_n (dk okLw_9 49 rfl) 1 rfl rfl ?_
  refine J_arg hG hn (j := 1) (by omega) 0 4 rfl rfl (by decide) (dk okLw_9 50 rfl) (dk okLw_9 51 rfl) (dk okLw_9 52 rfl) (dk okLw_9 53 rfl) (dk okLw_9 54 rfl) ?_
  refine J_arg hG hn (j := 2) (by omega) 0 4 rfl rfl (by decide) (dk okLw_9 55 rfl) (dk okLw_9 56 rfl) (dk okLw_9 57 rfl) (dk okLw_9 58 rfl) (dk okLw_9 59 rfl) ?_
  refine J_callVi (As := [.int (xs (n + 1)), .int (xs (n + 2))]) (dk okLw_10 0 rfl) ds_0 rfl vkX11_heard lkL_185 rfl rfl (Nat.le_of_ble_eq_true rfl) (Nat.le_of_ble_eq_true rfl) (con_X11_heard c1 ⟨_, rfl, ?_⟩)
  refine J_aload_n (dk okLw_10 1 rfl) 2 rfl rfl ?_
  refine J_arg hG hn (j := 1) (by omega) 0 4 rfl rfl (by decide) (dk okLw_10 2 rfl) (dk okLw_10 3 rfl) (dk okLw_10 4 rfl) (dk okLw_10 5 rfl) (dk okLw_10 6 rfl) ?_
  refine J_arg hG hn (j := 2) (by omega) 0 4 rfl rfl (by decide) (dk okLw_10 7 rfl) (dk okLw_10 8 rfl) (dk okLw_10 9 rfl) (dk okLw_10 10 rfl) (dk okLw_10 11 rfl) ?_
  refine J_callVi (As := [.int (xs (n + 1)), .int (xs (n + 2))]) (dk okLw_10 12 rfl) ds_49 rfl vkX12_heard lkL_188 rfl rfl (Nat.le_of_ble_eq_true rfl) (Nat.le_of_ble_eq_true rfl) (con_X12_heard c2 ⟨_, rfl, ?_⟩)
  exact J_icmp_eq (tgt := 1460) (dk okLw_10 13 rfl) (by decide) (fun _ => k σ' R' _ c4) (fun y => absurd c3 y)
theorem lc_39 (hG : LG b L xs G) (hn : n + 5 ≤ L) (h : Sim σ R μ) (k : ∀ σ R μ, Sim σ R μ → J E G 130 mL_law QF 1460 (lwl E b n) [] μ) : J E G 130 mL_law QF 1154 (lwl E b n) [] μ := by
  obtain ⟨c1, c2, c3, σ', R', c4⟩ := call_denies h
  refine J_aload_n (dk okLw_10 16 rfl) 1 rfl rfl ?_
  refine J_callVi (As := []) (dk okLw_10 17 rfl) ds_0 rfl vkX11_denies lkL_189 rfl rfl (Nat.le_of_ble_eq_true rfl) (Nat.le_of_ble_eq_true rfl) (con_X11_denies ⟨_, rfl, ?_⟩)
  refine J_aload_n (dk okLw_10 18 rfl) 2 rfl rfl ?_
  refine J_callVi (As := []) (dk okLw_10 19 rfl) ds_49 rfl vkX12_denies lkL_192 rfl rfl (Nat.le_of_ble_eq_true rfl) (Nat.le_of_ble_eq_true rfl) (con_X12_denies ⟨_, rfl, ?_⟩)
  exact J_icmp_eq (tgt := 1460) (dk okLw_10 20 rfl) (by decide) (fun _ => k σ' R' _ c4) (fun y => absurd c3 y)
theorem lc_40 (hG : LG b L xs G) (hn : n + 5 ≤ L) (h : Sim σ R μ) (k : ∀ σ R μ, Sim σ R μ → J E G 130 mL_law QF 1460 (lwl E b n) [] μ) : J E G 130 mL_law QF 1167 (lwl E b n) [] μ := by
  obtain ⟨c1, c2, c3, σ', R', c4⟩ := call_fits h
  refine J_aload_n (dk okLw_10 23 rfl) 1 rfl rfl ?_
  refine J_callVi (As := []) (dk okLw_10 24 rfl) ds_0 rfl vkX11_fits lkL_193 rfl rfl (Nat.le_of_ble_eq_true rfl) (Nat.le_of_ble_eq_true rfl) (con_X11_fits c1 ⟨_, rfl, ?_⟩)
  refine J_aload_n (dk okLw_10 25 rfl) 2 rfl rfl ?_
  refine J_callVi (As := []) (dk okLw_10 26 rfl) ds_49 rfl vkX12_fits lkL_196 rfl rfl (Nat.le_of_ble_eq_true rfl) (Nat.le_of_ble_eq_true rfl) (con_X12_fits c2 ⟨_, rfl, ?_⟩)
  exact J_icmp_eq (tgt := 1460) (dk okLw_10 27 rfl) (by decide) (fun _ => k σ' R' _ c4) (fun y => absurd c3 y)
theorem lc_41 (hG : LG b L xs G) (hn : n + 5 ≤ L) (h : Sim σ R μ) (k : ∀ σ R μ, Sim σ R μ → J E G 130 mL_law QF 1460 (lwl E b n) [] μ) : J E G 130 mL_law QF 1180 (lwl E b n) [] μ := by
  obtain ⟨c1, c2, c3, σ', R', c4⟩ := call_asks h
  refine J_aload_n (dk okLw_10 30 rfl) 1 rfl rfl ?_
  refine J_callVi (As := []) (dk okLw_10 31 rfl) ds_0 rfl vkX11_asks lkL_197 rfl rfl (Nat.le_of_ble_eq_true rfl) (Nat.le_of_ble_eq_true rfl) (con_X11_asks c1 ⟨_, rfl, ?_⟩)
  refine J_aload_n (dk okLw_10 32 rfl) 2 rfl rfl ?_
  refine J_callVi (As := []) (dk okLw_10 33 rfl) ds_49 rfl vkX12_asks lkL_200 rfl rfl (Nat.le_of_ble_eq_true rfl) (Nat.le_of_ble_eq_true rfl) (con_X12_asks c2 ⟨_, rfl, ?_⟩)
  exact J_icmp_eq (tgt := 1460) (dk okLw_10 34 rfl) (by decide) (fun _ => k σ' R' _ c4) (fun y => absurd c3 y)
theorem lc_42 (hG : LG b L xs G) (hn : n + 5 ≤ L) (h : Sim σ R μ) (k : ∀ σ R μ, Sim σ R μ → J E G 130 mL_law QF 1460 (lwl E b n) [] μ) : J E G 130 mL_law QF 1193 (lwl E b n) [] μ := by
  obtain ⟨c1, c2, c3, σ', R', c4⟩ := call_faints h (xs (n + 1))
  refine J_aload_n (dk okLw_10 37 rfl) 1 rfl rfl ?_
  refine J_arg hG hn (j := 1) (by omega) 0 4 rfl rfl (by decide) (dk okLw_10 38 rfl) (dk okLw_10 39 rfl) (dk okLw_10 40 rfl) (dk okLw_10 41 rfl) (dk okLw_10 42 rfl) ?_
  refine J_callVi (As := [.int (xs (n + 1))]) (dk okLw_10 43 rfl) ds_0 rfl vkX11_faints lkL_201 rfl rfl (Nat.le_of_ble_eq_true rfl) (Nat.le_of_ble_eq_true rfl) (con_X11_faints c1 ⟨_, rfl, ?_⟩)
  refine J_aload_n (dk okLw_10 44 rfl) 2 rfl rfl ?_
  refine J_arg hG hn (j := 1) (by omega) 0 4 rfl rfl (by decide) (dk okLw_10 45 rfl) (dk okLw_10 46 rfl) (dk okLw_10 47 rfl) (dk okLw_10 48 rfl) (dk okLw_10 49 rfl) ?_
  refine J_callVi (As := [.int (xs (n + 1))]) (dk okLw_10 50 rfl) ds_49 rfl vkX12_faints lkL_204 rfl rfl (Nat.le_of_ble_eq_true rfl) (Nat.le_of_ble_eq_true rfl) (con_X12_faints c2 ⟨_, rfl, ?_⟩)
  exact J_icmp_eq (tgt := 1460) (dk okLw_10 51 rfl) (by decide) (fun _ => k σ' R' _ c4) (fun y => absurd c3 y)
theorem lc_43 (hG : LG b L xs G) (hn : n + 5 ≤ L) (h : Sim σ R μ) (k : ∀ σ R μ, Sim σ R μ → J E G 130 mL_law QF 1460 (lwl E b n) [] μ) : J E G 130 mL_law QF 1218 (lwl E b n) [] μ := by
  obtain ⟨c1, c2, c3, σ', R', c4⟩ := call_plank h (xs (n + 1)) (xs (n + 2))
  refine J_aload_n (dk okLw_10 54 rfl) 1 rfl rfl ?_
  refine J_arg hG hn (j := 1) (by omega) 0 4 rfl rfl (by decide) (dk okLw_10 55 rfl) (dk okLw_10 56 rfl) (dk okLw_10 57 rfl) (dk okLw_10 58 rfl) (dk okLw_10 59 rfl) ?_
  refine J_arg hG hn (j := 2) (by omega) 0 4 rfl rfl (by decide) (dk okLw_11 0 rfl) (dk okLw_11 1 rfl) (dk okLw_11 2 rfl) (dk okLw_11 3 rfl) (dk okLw_11 4 rfl) ?_
  refine J_callVi (As := [.int (xs (n + 1)), .int (xs (n + 2))]) (dk okLw_11 5 rfl) ds_0 rfl vkX11_plank lkL_205 rfl rfl (Nat.le_of_ble_eq_true rfl) (Nat.le_of_ble_eq_true rfl) (con_X11_plank c1 ⟨_, rfl, ?_⟩)
  refine J_aload_n (dk okLw_11 6 rfl) 2 rfl rfl ?_
  refine J_arg hG hn (j := 1) (by omega) 0 4 rfl rfl (by decide) (dk okLw_11 7 rfl) (dk okLw_11 8 rfl) (dk okLw_11 9 rfl) (dk okLw_11 10 rfl) (dk okLw_11 11 rfl) ?_
  refine J_arg hG hn (j := 2) (by omega) 0 4 rfl rfl (by decide) (dk okLw_11 12 rfl) (dk okLw_11 13 rfl) (dk okLw_11 14 rfl) (dk okLw_11 15 rfl) (dk okLw_11 16 rfl) ?_
  refine J_callVi (As := [.int (xs (n + 1)), .int (xs (n + 2))]) (dk okLw_11 17 rfl) ds_49 rfl vkX12_plank lkL_208 rfl rfl (Nat.le_of_ble_eq_true rfl) (Nat.le_of_ble_eq_true rfl) (con_X12_plank c2 ⟨_, rfl, ?_⟩)
  exact J_icmp_eq (tgt := 1460) (dk okLw_11 18 rfl) (by decide) (fun _ => k σ' R' _ c4) (fun y => absurd c3 y)
theorem lc_44 (hG : LG b L xs G) (hn : n + 5 ≤ L) (h : Sim σ R μ) (k : ∀ σ R μ, Sim σ R μ → J E G 130 mL_law QF 1460 (lwl E b n) [] μ) : J E G 130 mL_law QF 1255 (lwl E b n) [] μ := by
  obtain ⟨c1, c2, c3, σ', R', c4⟩ := call_law h
  refine J_aload_n (dk okLw_11 21 rfl) 1 rfl rfl ?_
  refine J_callVi (As := []) (dk okLw_11 22 rfl) ds_0 rfl vkX11_law lkL_209 rfl rfl (Nat.le_of_ble_eq_true rfl) (Nat.le_of_ble_eq_true rfl) (con_X11_law c1 ⟨_, rfl, ?_⟩)
  refine J_aload_n (dk okLw_11 23 rfl) 2 rfl rfl ?_
  refine J_callVi (As := []) (dk okLw_11 24 rfl) ds_49 rfl vkX12_law lkL_212 rfl rfl (Nat.le_of_ble_eq_true rfl) (Nat.le_of_ble_eq_true rfl) (con_X12_law c2 ⟨_, rfl, ?_⟩)
  exact J_icmp_eq (tgt := 1460) (dk okLw_11 25 rfl) (by decide) (fun _ => k σ' R' _ c4) (fun y => absurd c3 y)
theorem lc_45 (hG : LG b L xs G) (hn : n + 5 ≤ L) (h : Sim σ R μ) (k : ∀ σ R μ, Sim σ R μ → J E G 130 mL_law QF 1460 (lwl E b n) [] μ) : J E G 130 mL_law QF 1268 (lwl E b n) [] μ := by
  obtain ⟨c1, c2, c3, σ', R', c4⟩ := call_crossings h (xs (n + 1))
  refine J_aload_n (dk okLw_11 28 rfl) 1 rfl rfl ?_
  refine J_arg hG hn (j := 1) (by omega) 0 4 rfl rfl (by decide) (dk okLw_11 29 rfl) (dk okLw_11 30 rfl) (dk okLw_11 31 rfl) (dk okLw_11 32 rfl) (dk okLw_11 33 rfl) ?_
  refine J_callVi (As := [.int (xs (n + 1))]) (dk okLw_11 34 rfl) ds_0 rfl vkX11_crossings lkL_213 rfl rfl (Nat.le_of_ble_eq_true rfl) (Nat.le_of_ble_eq_true rfl) (con_X11_crossings c1 ⟨_, rfl, ?_⟩)
  refine J_aload_n (dk okLw_11 35 rfl) 2 rfl rfl ?_
  refine J_arg hG hn (j := 1) (by omega) 0 4 rfl rfl (by decide) (dk okLw_11 36 rfl) (dk okLw_11 37 rfl) (dk okLw_11 38 rfl) (dk okLw_11 39 rfl) (dk okLw_11 40 rfl) ?_
  refine J_callVi (As := [.int (xs (n + 1))]) (dk okLw_11 41 rfl) ds_49 rfl vkX12_crossings lkL_216 rfl rfl (Nat.le_of_ble_eq_true rfl) (Nat.le_of_ble_eq_true rfl) (con_X12_crossings c2 ⟨_, rfl, ?_⟩)
  exact J_icmp_eq (tgt := 1460) (dk okLw_11 42 rfl) (by decide) (fun _ => k σ' R' _ c4) (fun y => absurd c3 y)
theorem lc_46 (hG : LG b L xs G) (hn : n + 5 ≤ L) (h : Sim σ R μ) (k : ∀ σ R μ, Sim σ R μ → J E G 130 mL_law QF 1460 (lwl E b n) [] μ) : J E G 130 mL_law QF 1293 (lwl E b n) [] μ := by
  obtain ⟨c1, c2, c3, σ', R', c4⟩ := call_years h (xs (n + 1)) (xs (n + 2))
  refine J_aload_n (dk okLw_11 45 rfl) 1 rfl rfl ?_
  refine J_arg hG hn (j := 1) (by omega) 0 4 rfl rfl (by decide) (dk okLw_11 46 rfl) (dk okLw_11 47 rfl) (dk okLw_11 48 rfl) (dk okLw_11 49 rfl) (dk okLw_11 50 rfl) ?_
  refine J_arg hG hn (j := 2) (by omega) 0 4 rfl rfl (by decide) (dk okLw_11 51 rfl) (dk okLw_11 52 rfl) (dk okLw_11 53 rfl) (dk okLw_11 54 rfl) (dk okLw_11 55 rfl) ?_
  refine J_callVi (As := [.int (xs (n + 1)), .int (xs (n + 2))]) (dk okLw_11 56 rfl) ds_0 rfl vkX11_years lkL_217 rfl rfl (Nat.le_of_ble_eq_true rfl) (Nat.le_of_ble_eq_true rfl) (con_X11_years c1 ⟨_, rfl, ?_⟩)
  refine J_aload_n (dk okLw_11 57 rfl) 2 rfl rfl ?_
  refine J_arg hG hn (j := 1) (by omega) 0 4 rfl rfl (by decide) (dk okLw_11 58 rfl) (dk okLw_11 59 rfl) (dk okLw_12 0 rfl) (dk okLw_12 1 rfl) (dk okLw_12 2 rfl) ?_
  refine J_arg hG hn (j := 2) (by omega) 0 4 rfl rfl (by decide) (dk okLw_12 3 rfl) (dk okLw_12 4 rfl) (dk okLw_12 5 rfl) (dk okLw_12 6 rfl) (dk okLw_12 7 rfl) ?_
  refine J_callVi (As := [.int (xs (n + 1)), .int (xs (n + 2))]) (dk okLw_12 8 rfl) ds_49 rfl vkX12_years lkL_220 rfl rfl (Nat.le_of_ble_eq_true rfl) (Nat.le_of_ble_eq_true rfl) (con_X12_years c2 ⟨_, rfl, ?_⟩)
  exact J_icmp_eq (tgt := 1460) (dk okLw_12 9 rfl) (by decide) (fun _ => k σ' R' _ c4) (fun y => absurd c3 y)
theorem lc_47 (hG : LG b L xs G) (hn : n + 5 ≤ L) (h : Sim σ R μ) (k : ∀ σ R μ, Sim σ R μ → J E G 130 mL_law QF 1460 (lwl E b n) [] μ) : J E G 130 mL_law QF 1330 (lwl E b n) [] μ := by
  obtain ⟨c1, c2, c3, σ', R', c4⟩ := call_keep h (xs (n + 1))
  refine J_aload_n (dk okLw_12 12 rfl) 1 rfl rfl ?_
  refine J_arg hG hn (j := 1) (by omega) 0 4 rfl rfl (by decide) (dk okLw_12 13 rfl) (dk okLw_12 14 rfl) (dk okLw_12 15 rfl) (dk okLw_12 16 rfl) (dk okLw_12 17 rfl) ?_
  refine J_callVi (As := [.int (xs (n + 1))]) (dk okLw_12 18 rfl) ds_0 rfl vkX11_keep lkL_221 rfl rfl (Nat.le_of_ble_eq_true rfl) (Nat.le_of_ble_eq_true rfl) (con_X11_keep c1 ⟨_, rfl, ?_⟩)
  refine J_aload_n (dk okLw_12 19 rfl) 2 rfl rfl ?_
  refine J_arg hG hn (j := 1) (by omega) 0 4 rfl rfl (by decide) (dk okLw_12 20 rfl) (dk okLw_12 21 rfl) (dk okLw_12 22 rfl) (dk okLw_12 23 rfl) (dk okLw_12 24 rfl) ?_
  refine J_callVi (As := [.int (xs (n + 1))]) (dk okLw_12 25 rfl) ds_49 rfl vkX12_keep lkL_224 rfl rfl (Nat.le_of_ble_eq_true rfl) (Nat.le_of_ble_eq_true rfl) (con_X12_keep c2 ⟨_, rfl, ?_⟩)
  exact J_icmp_eq (tgt := 1460) (dk okLw_12 26 rfl) (by decide) (fun _ => k σ' R' _ c4) (fun y => absurd c3 y)
theorem lc_48 (hG : LG b L xs G) (hn : n + 5 ≤ L) (h : Sim σ R μ) (k : ∀ σ R μ, Sim σ R μ → J E G 130 mL_law QF 1460 (lwl E b n) [] μ) : J E G 130 mL_law QF 1355 (lwl E b n) [] μ := by
  obtain ⟨c1, c2, c3, σ', R', c4⟩ := call_again h (xs (n + 1))
  refine J_aload_n (dk okLw_12 29 rfl) 1 rfl rfl ?_
  refine J_arg hG hn (j := 1) (by omega) 0 4 rfl rfl (by decide) (dk okLw_12 30 rfl) (dk okLw_12 31 rfl) (dk okLw_12 32 rfl) (dk okLw_12 33 rfl) (dk okLw_12 34 rfl) ?_
  refine J_callVi (As := [.int (xs (n + 1))]) (dk okLw_12 35 rfl) ds_0 rfl vkX11_again lkL_225 rfl rfl (Nat.le_of_ble_eq_true rfl) (Nat.le_of_ble_eq_true rfl) (con_X11_again c1 ⟨_, rfl, ?_⟩)
  refine J_aload_n (dk okLw_12 36 rfl) 2 rfl rfl ?_
  refine J_arg hG hn (j := 1) (by omega) 0 4 rfl rfl (by decide) (dk okLw_12 37 rfl) (dk okLw_12 38 rfl) (dk okLw_12 39 rfl) (dk okLw_12 40 rfl) (dk okLw_12 41 rfl) ?_
  refine J_callVi (As := [.int (xs (n + 1))]) (dk okLw_12 42 rfl) ds_49 rfl vkX12_again lkL_228 rfl rfl (Nat.le_of_ble_eq_true rfl) (Nat.le_of_ble_eq_true rfl) (con_X12_again c2 ⟨_, rfl, ?_⟩)
  exact J_icmp_eq (tgt := 1460) (dk okLw_12 43 rfl) (by decide) (fun _ => k σ' R' _ c4) (fun y => absurd c3 y)
theorem lc_49 (hG : LG b L xs G) (hn : n + 5 ≤ L) (h : Sim σ R μ) (k : ∀ σ R μ, Sim σ R μ → J E G 130 mL_law QF 1460 (lwl E b n) [] μ) : J E G 130 mL_law QF 1380 (lwl E b n) [] μ := by
  obtain ⟨c1, c2, c3, σ', R', c4⟩ := call_count h (xs (n + 1))
  refine J_aload_n (dk okLw_12 46 rfl) 1 rfl rfl ?_
  refine J_arg hG hn (j := 1) (by omega) 0 4 rfl rfl (by decide) (dk okLw_12 47 rfl) (dk okLw_12 48 rfl) (dk okLw_12 49 rfl) (dk okLw_12 50 rfl) (dk okLw_12 51 rfl) ?_
  refine J_callVi (As := [.int (xs (n + 1))]) (dk okLw_12 52 rfl) ds_0 rfl vkX11_count lkL_229 rfl rfl (Nat.le_of_ble_eq_true rfl) (Nat.le_of_ble_eq_true rfl) (con_X11_count c1 ⟨_, rfl, ?_⟩)
  refine J_aload_n (dk okLw_12 53 rfl) 2 rfl rfl ?_
  refine J_arg hG hn (j := 1) (by omega) 0 4 rfl rfl (by decide) (dk okLw_12 54 rfl) (dk okLw_12 55 rfl) (dk okLw_12 56 rfl) (dk okLw_12 57 rfl) (dk okLw_12 58 rfl) ?_
  refine J_callVi (As := [.int (xs (n + 1))]) (dk okLw_12 59 rfl) ds_49 rfl vkX12_count lkL_232 rfl rfl (Nat.le_of_ble_eq_true rfl) (Nat.le_of_ble_eq_true rfl) (con_X12_count c2 ⟨_, rfl, ?_⟩)
  exact J_icmp_eq (tgt := 1460) (dk okLw_13 0 rfl) (by decide) (fun _ => k σ' R' _ c4) (fun y => absurd c3 y)
end LC

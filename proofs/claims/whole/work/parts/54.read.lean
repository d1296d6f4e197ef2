/-! the texts; a signed number -/
theorem nar_c : ∀ c, c < 256 → narrow .char (.int (nI c)) = .int (nI c) := by
  intro c hc
  show Value.int _ = Value.int _
  congr 1
  revert c
  decide +kernel
theorem ch_ok : ∀ p, p < 7 → ∀ j, j < strLen.getD p 0 → p_J0_charAt_5068e p (nI j) := by
  intro p hp j hj
  unfold p_J0_charAt_5068e p_J1_charAt_3b067 p_J0_checkIndex_df160 p_J3_checkIndex_8e157 v_J0_isLatin1_aae02 v_J1_charAt_3b067
  have key : ∀ p, p < 7 → ∀ j, j < strLen.getD p 0 → ((Int32.toUInt32 (((strByt.getD p []).getD (Int32.toNatClampNeg (nI j)) 0) &&& 255) % 65536).toInt32) = nI ((strByt.getD p []).getD j 0).toNatClampNeg ∧ ((strByt.getD p []).getD j 0).toNatClampNeg < 256 ∧ strLen.getD p 0 < 20 := by decide +kernel
  obtain ⟨k1, k2, k3⟩ := key p hp j hj
  rw [k1]
  have hn := nar_c _ k2
  refine ⟨fun y => absurd y (by decide), fun _ => ⟨⟨⟨fun y => absurd y (nI_pos (by omega)), fun _ y => y ((nI_ltI (by omega) (by omega)).mpr hj)⟩, vp_in_nI hj (by omega), hn⟩, hn⟩⟩
theorem tx1 : TxW 1 [45, 43] := ⟨by decide +kernel, by decide, fun j hj => ⟨(by decide +kernel : ∀ j, j < 2 → v_J0_charAt_5068e 1 (nI j) = nI ([45, 43].getD j 0)) j hj, ch_ok 1 (by decide) j hj, (by decide : ∀ j, j < 2 → [45, 43].getD j 0 < 256) j hj⟩⟩
theorem tx2 : TxW 2 [119, 101] := ⟨by decide +kernel, by decide, fun j hj => ⟨(by decide +kernel : ∀ j, j < 2 → v_J0_charAt_5068e 2 (nI j) = nI ([119, 101].getD j 0)) j hj, ch_ok 2 (by decide) j hj, (by decide : ∀ j, j < 2 → [119, 101].getD j 0 < 256) j hj⟩⟩
theorem tx6 : TxW 6 [110, 111, 115, 108, 116] := ⟨by decide +kernel, by decide, fun j hj => ⟨(by decide +kernel : ∀ j, j < 5 → v_J0_charAt_5068e 6 (nI j) = nI ([110, 111, 115, 108, 116].getD j 0)) j hj, ch_ok 6 (by decide) j hj, (by decide : ∀ j, j < 5 → [110, 111, 115, 108, 116].getD j 0 < 256) j hj⟩⟩

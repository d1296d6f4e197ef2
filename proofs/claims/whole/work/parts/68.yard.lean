/-! a thing -/
section TH
variable {T : List Nat} {a e n : Nat} {μ : Mm} {o k : List Nat} {d : Nat} {c : Nat → Bool}
theorem brk_le (x : Nat) : brk x ≤ 3 := by
  unfold brk
  (repeat' split) <;> omega
theorem Fa0 {μ' : Mm} (hr : Rd T a e μ') (hL : LsM o μ') (hlen : o.length + k.length ≤ a) (hs : a < e → stpS (o, k, true, d, c, 0) (chT T a) = none) : FaG T e a o k d c μ' := ⟨a, _, o.length, hr, hL.1, hlen, Rn.rfl, hs, fun _ => .inl rfl⟩
theorem stp_n {x : Nat} (h1 : x ≠ 45) (h2 : ¬ (48 ≤ x ∧ x ≤ 57)) (h3 : thg' x = none) (h4 : x = 40 → ¬ d < 4) : stpS (o, k, true, d, c, 0) x = none := by
  unfold stpS stp
  dsimp only
  rw [if_pos rfl, if_neg h1, if_neg h2, h3]
  by_cases y : x = 40
  · rw [if_pos y, if_neg (h4 y)]
  · rw [if_neg y]; rfl
theorem stp_m : stpS (o, k, true, d, c, 0) 45 = some (o, 126 :: k, true, d, c, 0) := by
  unfold stpS stp
  dsimp only
  rw [if_pos rfl, if_pos rfl]
theorem stp_o (hd : d < 4) : stpS (o, k, true, d, c, 0) 40 = some (o, 40 :: k, true, d + 1, (fun i => if i = d + 1 then false else c i), 0) := by
  unfold stpS stp
  dsimp only
  rw [if_pos rfl, if_neg (by decide), if_pos rfl, if_pos hd]
theorem stp_t {x t : Nat} (h1 : x ≠ 45) (h2 : ¬ (48 ≤ x ∧ x ≤ 57)) (h3 : thg' x = some t) (h4 : x ≠ 40) : stpS (o, k, true, d, c, 0) x = some (o ++ [1000 + t], k, false, d, c, 0) := by
  unfold stpS stp
  dsimp only
  rw [if_pos rfl, if_neg h1, if_neg h2, h3, if_neg h4]; rfl
theorem stp_c {P : List Nat} {g : Nat} (hP : ∀ x, x ∈ P → 1 ≤ rkO x) : stpS (o, P ++ 40 :: k, false, d + 1, c, g) 41 = some (o ++ P.map cdO, k, false, d, c, 0) := by
  obtain ⟨t1, t2⟩ := tw_all (r := 1) (P := P) (k := 40 :: k) hP (show rkO 40 < 1 by decide)
  unfold stpS stp
  dsimp only
  rw [if_neg (by decide), if_neg (by decide), if_pos rfl, if_pos (by omega), t1, t2]; rfl
theorem stp_x {x g : Nat} (h1 : 48 ≤ x ∧ x ≤ 57 → g = 0 ∨ g = 3) (h2 : 1 ≤ brk x → brk x = 1 ∧ c d = true) (h3 : x = 41 → d = 0) : stpS (o, k, false, d, c, g) x = none := by
  unfold stpS stp
  dsimp only
  rw [if_neg (by decide)]
  by_cases y : 48 ≤ x ∧ x ≤ 57
  · rw [if_pos y, if_neg (by have := h1 y; omega)]
  · rw [if_neg y]
    by_cases z : x = 41
    · rw [if_pos z, if_neg (by have := h3 z; omega)]
    · rw [if_neg z]
      by_cases w : brk x = 0
      · rw [if_pos w]
      · rw [if_neg w, if_pos (h2 (by omega))]
theorem nI_12 : ∀ t, t < 7 → (1000 : Int32) + nI t = nI (1000 + t) := by decide +kernel
theorem thing_s (hT : ∀ i, chT T i < 256) (ih1 : ThG T e n) (ih2 : RkG T e n) : ThG T e (n + 1) := by
  intro a o k d c μ hp hn
  show pr_X12_readsThing (rdFP n).1 (rdFP n).2 μ ∧ Rdg T e a o k d c 3 (vr_X12_readsThing (rdFP n).1 (rdFP n).2 μ) μ (er_X12_readsThing (rdFP n).1 (rdFP n).2 μ)
  obtain ⟨hr, h12, hd4, hL, hlen, he⟩ := hp
  unfold pr_X12_readsThing vr_X12_readsThing er_X12_readsThing
  simp only [forall_eq]
  obtain ⟨t1, t2, t3⟩ := R_takes hr hT (c := 45) (by omega)
  have n45 : nI 45 = 45 := rfl
  have n40 : nI 40 = 40 := rfl
  have n41 : nI 41 = 41 := rfl
  rw [n45] at t1 t2 t3
  have f2 : Fs rdF μ (e_X12_takes 45 μ) := Fs.rfl.call (fs_X12_takes 45 μ) (by decide)
  have L2 := hL.fs (fs_X12_takes 45 μ) (by decide)
  have m2 : (e_X12_takes 45 μ).1 49 12 = nI d := by rw [(fs_X12_takes 45 μ).1 49 12 (by decide) (.inr (by decide))]; exact h12
  have hae := hr.2.2.1
  rw [t2]
  generalize e_X12_takes 45 μ = μ2 at t3 f2 L2 m2 ⊢
  simp only [one0]
  cases q1 : (decide (a < e) && decide (chT T a = 45))
  · rw [q1] at t3
    have r2 : Rd T a e μ2 := t3
    have x45 : a < e → chT T a ≠ 45 := fun y z => by rw [decide_eq_true y, decide_eq_true z] at q1; exact absurd q1 (by decide)
    obtain ⟨i1, i2⟩ := R_isDigit r2 hT
    rw [i2]
    simp only [one0, Bool.false_eq_true, not_false_eq_true, if_true, true_imp_iff, not_true_eq_false, false_imp_iff, and_true]
    cases q2 : isD T a e 0 9
    · have xd : a < e → ¬ (48 ≤ chT T a ∧ chT T a ≤ 57) := fun y => of_decide_eq_false (isD_f q2 y)
      obtain ⟨a1, a2, a3⟩ := R_takesOf tx0 r2 hT
      have f7 := f2.call (fs_X12_takesOf 0 μ2) (by decide)
      have L7 := L2.fs (fs_X12_takesOf 0 μ2) (by decide)
      have m7 : (e_X12_takesOf 0 μ2).1 49 12 = nI d := by rw [(fs_X12_takesOf 0 μ2).1 49 12 (by decide) (.inr (by decide))]; exact m2
      rw [a2]
      generalize e_X12_takesOf 0 μ2 = μ7 at a3 f7 L7 m7 ⊢
      simp only [Bool.false_eq_true, not_false_eq_true, if_true, true_imp_iff, not_true_eq_false, false_imp_iff, and_true]
      cases q3 : wxO thW T a e with
      | some t =>
        have hz : a < e := by
          rcases Nat.lt_or_ge a e with y | y
          · exact y
          · unfold wxO at q3; rw [if_neg (by omega)] at q3; cases q3
        have ht : thg' (chT T a) = some t := by
          unfold wxO at q3; rw [if_pos hz] at q3; exact q3
        have ht7 : t < 7 := by have := (ff_rg ht).2; omega
        have x40 : chT T a ≠ 40 := fun y => by
          have h0 : thg' 40 = none := by decide
          rw [y, h0] at ht; cases ht
        rw [q3] at a3
        have a3' : Rd T (a + 1) e μ7 := a3
        have e0 : wxI (some t) = nI t := rfl
        have g0 : ¬ (nI t < 0) := nI_pos (by omega)
        simp only [e0, g0, if_false, false_imp_iff, true_and, not_false_eq_true, true_imp_iff]
        rw [nI_12 t ht7]
        obtain ⟨c1, c2⟩ := M_codes (x := 1000 + t) L7 (by omega)
        refine ⟨⟨t1, i1, a1, c1⟩, f7.call (fs_X12_codes _ _) (by decide), .inl ⟨rfl, a + 1, o ++ [1000 + t], [], c, 0, ?_, ?_, ?_, by omega, Rn.st (stp_t (x45 hz) (xd hz) ht x40), fun x hx => absurd hx (by simp), fun _ _ => rfl, fun _ => rfl, fun _ => ⟨fun _ => .inl rfl, fun y => ?_⟩⟩⟩
        · exact a3'.fs (fs_X12_codes _ _) (by decide)
        · rw [(fs_X12_codes (nI (1000 + t)) μ7).1 49 12 (by decide) (.inr (by decide))]; exact m7
        · rw [List.map_nil, List.append_nil]; exact c2
        · have := brk_le (chT T (a + 1)); omega
      | none =>
        have ht : a < e → thg' (chT T a) = none := fun hz => by
          unfold wxO at q3; rw [if_pos hz] at q3; exact q3
        rw [q3] at a3
        have r7 : Rd T a e μ7 := a3
        have e0 : wxI none = -1 := rfl
        have g0 : (-1 : Int32) < 0 := by decide
        have m4 : (nI d = 4) ↔ d = 4 := nI_eq (b := 4) (by omega) (by omega)
        rw [m7]
        simp only [e0, g0, if_true, true_imp_iff, not_true_eq_false, false_imp_iff, and_true, m4]
        by_cases qd : d = 4
        · simp only [qd, if_true, not_true_eq_false, false_imp_iff, and_true]
          refine ⟨⟨t1, i1, a1⟩, f7, .inr ⟨rfl, Fa0 r7 L7 hlen (fun hz => stp_n (x45 hz) (xd hz) (ht hz) (fun _ => by omega))⟩⟩
        · have hd : d < 4 := by omega
          simp only [qd, if_false, not_false_eq_true, true_imp_iff]
          obtain ⟨b1, b2, b3⟩ := R_takes r7 hT (c := 40) (by omega)
          rw [n40] at b1 b2 b3
          have f11 := f7.call (fs_X12_takes 40 μ7) (by decide)
          have L11 := L7.fs (fs_X12_takes 40 μ7) (by decide)
          have m11 : (e_X12_takes 40 μ7).1 49 12 = nI d := by rw [(fs_X12_takes 40 μ7).1 49 12 (by decide) (.inr (by decide))]; exact m7
          rw [b2]
          generalize e_X12_takes 40 μ7 = μ11 at b3 f11 L11 m11 ⊢
          cases q4 : (decide (a < e) && decide (chT T a = 40))
          · rw [q4] at b3
            have r11 : Rd T a e μ11 := b3
            have x40 : a < e → chT T a ≠ 40 := fun y z => by rw [decide_eq_true y, decide_eq_true z] at q4; exact absurd q4 (by decide)
            simp only [Bool.false_eq_true, if_false, if_true, not_true_eq_false, false_imp_iff, and_true]
            refine ⟨⟨t1, i1, a1, b1⟩, f11, .inr ⟨rfl, Fa0 r11 L11 hlen (fun hz => stp_n (x45 hz) (xd hz) (ht hz) (fun y => absurd y (x40 hz)))⟩⟩
          · rw [q4] at b3
            have r11 : Rd T (a + 1) e μ11 := b3
            simp only [Bool.and_eq_true, decide_eq_true_eq] at q4
            obtain ⟨hz, x40⟩ := q4
            have o1 : ¬ ((1 : Int32) = 0) := by decide
            simp only [if_true, o1, if_false, not_false_eq_true, true_imp_iff]
            have f13 : Fs rdF μ (upI μ11 49 12 (μ11.1 49 12 + 1)) := f11.upF (by decide)
            have r13 : Rd T (a + 1) e (upI μ11 49 12 (μ11.1 49 12 + 1)) := r11.up (by decide) _
            have L13 : LsM o (upI μ11 49 12 (μ11.1 49 12 + 1)) := L11.fs (S := [1012]) (Fs.rfl.upF (by simp)) (by decide)
            have m13 : (upI μ11 49 12 (μ11.1 49 12 + 1)).1 49 12 = nI (d + 1) := by rw [rI, if_pos ⟨rfl, rfl⟩, m11, nI_1]
            generalize upI μ11 49 12 (μ11.1 49 12 + 1) = μ13 at f13 r13 L13 m13 ⊢
            have st1 : Rn T a (o, k, true, d, c, 0) (a + 1) (o, 40 :: k, true, d + 1, (fun i => if i = d + 1 then false else c i), 0) := Rn.st (by rw [x40]; exact stp_o hd)
            have ih := ih2 0 (a + 1) o (40 :: k) (d + 1) (fun i => if i = d + 1 then false else c i) μ13 (by omega) ⟨r13, m13, by omega, L13, by simp only [List.length_cons]; omega, he⟩ (fun _ => by show rkO 40 < 0 + 1; decide) (fun _ => by rw [if_pos rfl]) (by omega)
            have z0 : nI 0 = 0 := rfl
            rw [z0] at ih
            obtain ⟨j1, j2, j3⟩ := ih
            generalize hF : (rdFP n).1 (some 0) μ13 = Z at j2 j3 ⊢
            have f15 := f13.call j2 (by decide)
            rcases j3 with ⟨v1, b, o', P, c', g', s1, s2, s3, s4, s5, s6, s7, s8, s9⟩ | ⟨v0, b, S, m, s1, s2, s3, s4, s5, s6⟩
            · have hb := s1.2.2.1
              have hln := (st1.tr s5).ln (by unfold lnS; exact hlen)
              have hln' : o'.length + (P ++ 40 :: k).length ≤ b := hln
              rw [List.length_append, List.length_cons] at hln'
              rw [v1]
              simp only [o1, if_false, not_false_eq_true, true_imp_iff]
              obtain ⟨c1, c2, c3⟩ := R_takes s1 hT (c := 41) (by omega)
              rw [n41] at c1 c2 c3
              have f18 := f15.call (fs_X12_takes 41 Z.2) (by decide)
              have L18 := s3.fs (fs_X12_takes 41 Z.2) (by decide)
              have m18 : (e_X12_takes 41 Z.2).1 49 12 = nI (d + 1) := by rw [(fs_X12_takes 41 Z.2).1 49 12 (by decide) (.inr (by decide))]; exact s2
              rw [c2]
              generalize e_X12_takes 41 Z.2 = μ18 at c3 f18 L18 m18 ⊢
              cases q5 : (decide (b < e) && decide (chT T b = 41))
              · rw [q5] at c3
                have r18 : Rd T b e μ18 := c3
                have x41 : b < e → chT T b ≠ 41 := fun y z => by rw [decide_eq_true y, decide_eq_true z] at q5; exact absurd q5 (by decide)
                simp only [Bool.false_eq_true, if_false, if_true]
                refine ⟨⟨t1, i1, a1, b1, j1, c1⟩, f18, .inr ⟨rfl, b, _, (o' ++ P.map cdO).length, r18, L18.1, ?_, st1.tr s5, fun y => ?_, fun _ => .inr (Nat.succ_pos d)⟩⟩
                · rw [List.length_append, List.length_map]; omega
                · obtain ⟨u1, u2⟩ := s9 y
                  exact stp_x u1 (fun w => (u2 w).2) (fun w => absurd w (x41 y))
              · rw [q5] at c3
                have r18 : Rd T (b + 1) e μ18 := c3
                simp only [Bool.and_eq_true, decide_eq_true_eq] at q5
                obtain ⟨hz2, x41⟩ := q5
                simp only [if_true, o1, if_false]
                have f20 : Fs rdF μ (upI μ18 49 12 (μ18.1 49 12 - 1)) := f18.upF (by decide)
                refine ⟨⟨t1, i1, a1, b1, j1, c1⟩, f20, .inl ⟨rfl, b + 1, o' ++ P.map cdO, [], c', 0, r18.up (by decide) _, ?_, ?_, by omega, ?_, fun x hx => absurd hx (by simp), fun i hi => ?_, fun _ => ?_, fun _ => ⟨fun _ => .inl rfl, fun y => ?_⟩⟩⟩
                · rw [rI, if_pos ⟨rfl, rfl⟩, m18, show (1 : Int32) = nI 1 from rfl, nI_sub (by omega)]; rfl
                · rw [List.map_nil, List.append_nil]
                  exact L18.fs (S := [1012]) (Fs.rfl.upF (by simp)) (by decide)
                · exact (st1.tr s5).tr (Rn.st (by rw [x41]; exact stp_c s6))
                · have := s7 i (by omega)
                  rw [this]; exact if_neg (by omega)
                · have := s7 d (by omega)
                  rw [this]; exact if_neg (by omega)
                · have := brk_le (chT T (b + 1)); omega
            · rw [v0]
              simp only [if_true, not_true_eq_false, false_imp_iff, and_true]
              rw [List.length_cons] at s3
              exact ⟨⟨t1, i1, a1, b1, j1⟩, f15, .inr ⟨rfl, b, S, m, s1, s2, by omega, st1.tr s4, s5, s6⟩⟩
    · obtain ⟨u1, m, v, u2, u3, u4, u5, u6, u7⟩ := R_number3 (o := o) (k := k) (d := d) (c := c) r2 hT q2
      have f24 := f2.call (fs_X12_number 3 μ2) (by decide)
      have L24 := L2.fs (fs_X12_number 3 μ2) (by decide)
      have m24 : (e_X12_number 3 μ2).1 49 12 = nI d := by rw [(fs_X12_number 3 μ2).1 49 12 (by decide) (.inr (by decide))]; exact m2
      simp only [not_true_eq_false, if_false, false_imp_iff, true_and, not_false_eq_true, true_imp_iff]
      rw [u4]
      generalize e_X12_number 3 μ2 = μ24 at u5 f24 L24 m24 ⊢
      obtain ⟨c1, c2⟩ := M_codes (x := v) L24 (by omega)
      refine ⟨⟨t1, i1, u1, c1⟩, f24.call (fs_X12_codes _ _) (by decide), .inl ⟨rfl, a + m, o ++ [v], [], c, m, ?_, ?_, ?_, by omega, u6, fun x hx => absurd hx (by simp), fun _ _ => rfl, fun _ => rfl, fun y => ⟨fun w => ?_, fun w => ?_⟩⟩⟩
      · exact u5.fs (fs_X12_codes _ _) (by decide)
      · rw [(fs_X12_codes (nI v) μ24).1 49 12 (by decide) (.inr (by decide))]; exact m24
      · rw [List.map_nil, List.append_nil]; exact c2
      · right
        refine u7 ?_
        unfold isD
        rw [decide_eq_true y, Bool.true_and]
        exact decide_eq_true w
      · have := brk_le (chT T (a + m)); omega
  · rw [q1] at t3
    have r2 : Rd T (a + 1) e μ2 := t3
    simp only [Bool.and_eq_true, decide_eq_true_eq] at q1
    obtain ⟨hz, x45⟩ := q1
    simp only [not_true_eq_false, if_false, false_imp_iff, true_and, not_false_eq_true, true_imp_iff]
    have st1 : Rn T a (o, k, true, d, c, 0) (a + 1) (o, 126 :: k, true, d, c, 0) := Rn.st (by rw [x45]; exact stp_m)
    obtain ⟨j1, j2, j3⟩ := ih1 (a + 1) o (126 :: k) d c μ2 ⟨r2, m2, hd4, L2, by simp only [List.length_cons]; omega, he⟩ (by omega)
    generalize hF : (rdFP n).1 none μ2 = Z at j2 j3 ⊢
    have f28 := f2.call j2 (by decide)
    have f30 := f28.call (fs_X12_codes 3000 Z.2) (by decide)
    have n3k : nI 3000 = 3000 := rfl
    rcases j3 with ⟨v1, b, o', P, c', g', s1, s2, s3, s4, s5, s6, s7, s8, s9⟩ | ⟨v0, b, S, m, s1, s2, s3, s4, s5, s6⟩
    · have hb := s1.2.2.1
      have hln := (st1.tr s5).ln (by unfold lnS; exact hlen)
      have hln' : o'.length + (P ++ 126 :: k).length ≤ b := hln
      rw [List.length_append, List.length_cons] at hln'
      obtain ⟨c1, c2⟩ := M_codes (x := 3000) s3 (by rw [List.length_append, List.length_map]; omega)
      rw [n3k] at c1 c2
      rw [v1]
      refine ⟨⟨t1, j1, c1, rfl⟩, f30, .inl ⟨rfl, b, o', P ++ [126], c', g', s1.fs (fs_X12_codes _ _) (by decide), ?_, ?_, by omega, ?_, fun x hx => ?_, s7, s8, s9⟩⟩
      · rw [(fs_X12_codes 3000 Z.2).1 49 12 (by decide) (.inr (by decide))]; exact s2
      · rw [List.map_append, ← List.append_assoc]; exact c2
      · rw [List.append_assoc]; exact st1.tr s5
      · rcases List.mem_append.mp hx with y | y
        · exact s6 x y
        · rw [List.mem_singleton.mp y]; decide
    · rw [List.length_cons] at s3
      have hb := s1.2.2.1
      obtain ⟨c1, c2⟩ := M_cnt (x := 3000) s2 (by omega)
      rw [v0]
      exact ⟨⟨t1, j1, c1, rfl⟩, f30, .inr ⟨rfl, b, S, m + 1, s1.fs (fs_X12_codes _ _) (by decide), c2, by omega, st1.tr s4, s5, s6⟩⟩
end TH

/-! what stands between things -/
def opC (W : List Nat) (q x : Nat) : Bool := match ff (fun j => decide (W.getD j 0 = x)) 0 W.length with
  | some j => decide (brk x = q + 1 ∧ rkO x = q + 1 ∧ ¬ (48 ≤ x ∧ x ≤ 57) ∧ x ≠ 41 ∧ ((2000 + nI j) + (if nI q = 0 then 0 else (if nI q = 1 then 3 else 5 : Int32)) : Int32) = nI (cdO x))
  | none => decide (brk x ≠ q + 1)
theorem opW {q : Nat} (hq : q ≤ 2) : ∃ W, TxW (if nI q = 0 then 3 else (if nI q = 1 then 4 else 5 : Nat) : Nat) W ∧ ∀ x, x < 256 → opC W q x = true := by
  have : q = 0 ∨ q = 1 ∨ q = 2 := by omega
  rcases this with rfl | rfl | rfl
  · exact ⟨_, tx3, by decide +kernel⟩
  · exact ⟨_, tx4, by decide +kernel⟩
  · exact ⟨_, tx5, by decide +kernel⟩
section RK
variable {T : List Nat} {a e n : Nat} {μ : Mm} {o k : List Nat} {d : Nat} {c : Nat → Bool}
theorem stp_b {P : List Nat} {g x : Nat} (hP : ∀ y, y ∈ P → brk x ≤ rkO y) (hk : rkO (k.headD 40) < brk x) (h1 : ¬ (48 ≤ x ∧ x ≤ 57)) (h2 : x ≠ 41) (h3 : brk x = 1 → c d = false) : stpS (o, P ++ k, false, d, c, g) x = some (o ++ P.map cdO, x :: k, true, d, (fun i => if i = d ∧ brk x = 1 then true else c i), 0) := by
  obtain ⟨t1, t2⟩ := tw_all (r := brk x) (P := P) (k := k) hP hk
  unfold stpS stp
  dsimp only
  rw [if_neg (by decide), if_neg h1, if_neg h2, if_neg (by omega), if_neg (fun y => by rw [h3 y.1] at y; exact absurd y.2 (by decide)), t1, t2]
def LpG (T : List Nat) (e a : Nat) (o k : List Nat) (d : Nat) (c : Nat → Bool) (q i : Nat) (μ' : Mm) : Prop := ∃ b o' P c' g', Rd T b e μ' ∧ μ'.1 49 12 = nI d ∧ LsM (o' ++ P.map cdO) μ' ∧ a + i < b ∧ Rn T a (o, k, true, d, c, 0) b (o', P ++ k, false, d, c', g') ∧ (∀ x, x ∈ P → q + 1 ≤ rkO x) ∧ (∀ i, i < d → c' i = c i) ∧ c' d = c d ∧ (b < e → (48 ≤ chT T b ∧ chT T b ≤ 57 → g' = 0 ∨ g' = 3) ∧ brk (chT T b) ≤ q + 1)
theorem nar_01 {v : Int32} (h : v = 1 ∨ v = 0) : narrow .boolean (.int v) = .int v := by
  rcases h with h | h <;> rw [h] <;> rfl
theorem rank_l (hT : ∀ i, chT T i < 256) (ih2 : RkG T e n) {q : Nat} (hq : q ≤ 2) (hd4 : d ≤ 4) (he : e ≤ 40) (hlen : o.length + k.length ≤ a) (hk : rkO (k.headD 40) < q + 1) (hc : q = 0 → c d = false) (hn : (e - a) + 5 * (4 - d) + 1 + (4 - q) ≤ n + 1) {μ6 : Mm} (hf : Fs rdF μ μ6) (hs : LpG T e a o k d c q 0 μ6) : whP (fun s : Int32 × Int32 × Mm => bd_X12_readsRank_24 (rdFP n).1 (rdFP n).2 s.1 s.2.1 s.2.2) (fun s : Int32 × Int32 × Mm => sd_X12_readsRank_24 (rdFP n).1 (rdFP n).2 s.1 s.2.1 s.2.2) FU (nI q, 1, μ6) ∧ (fun z : Int32 × Mm => Rdg T e a o k d c q z.1 μ z.2) (whl (fun s : Int32 × Int32 × Mm => bd_X12_readsRank_24 (rdFP n).1 (rdFP n).2 s.1 s.2.1 s.2.2) (fun s : Int32 × Int32 × Mm => (0, s.2.2)) FU (nI q, 1, μ6)) := by
  obtain ⟨W, hW, hO⟩ := opW hq
  refine lpI (f := fun s : Int32 × Int32 × Mm => bd_X12_readsRank_24 (rdFP n).1 (rdFP n).2 s.1 s.2.1 s.2.2) (sd := fun s : Int32 × Int32 × Mm => sd_X12_readsRank_24 (rdFP n).1 (rdFP n).2 s.1 s.2.1 s.2.2) (dd := fun s : Int32 × Int32 × Mm => (0, s.2.2))
    (I := fun i s => (∃ μ', s = (nI q, 1, μ') ∧ Fs rdF μ μ' ∧ LpG T e a o k d c q i μ') ∨ (∃ μ', s = (nI q, 0, μ') ∧ Fs rdF μ μ' ∧ SuG T e a o k d c (q + 1) (q + 1) (q = 0) (1 ≤ q) μ'))
    (R := fun z : Int32 × Mm => Rdg T e a o k d c q z.1 μ z.2) 42 (by omega) ?_ (s0 := (nI q, 1, μ6)) (.inl ⟨μ6, rfl, hf, hs⟩)
  rintro i _ hi (⟨μ', rfl, hf', b, o', P, c', g', s1, s2, s3, s4, s5, s6, s7, s8, s9⟩ | ⟨μ', rfl, hf', hs'⟩)
  · have hb := s1.2.2.1
    dsimp only
    unfold sd_X12_readsRank_24 bd_X12_readsRank_24
    have o1 : ¬ ((1 : Int32) = 0) := by decide
    simp only [forall_eq, o1, if_false, not_false_eq_true, true_imp_iff]
    obtain ⟨a1, a2, a3⟩ := R_takesOf hW s1 hT
    generalize hpp : (if nI q = 0 then 3 else (if nI q = 1 then 4 else 5 : Nat) : Nat) = pp at hW a1 a2 a3 ⊢
    have f6 := hf'.call (fs_X12_takesOf pp μ') (by decide)
    have L6 := s3.fs (fs_X12_takesOf pp μ') (by decide)
    have m6 : (e_X12_takesOf pp μ').1 49 12 = nI d := by rw [(fs_X12_takesOf pp μ').1 49 12 (by decide) (.inr (by decide))]; exact s2
    rw [a2]
    generalize e_X12_takesOf pp μ' = μ7 at a3 f6 L6 m6 ⊢
    have hcb := hO (chT T b) (hT b)
    unfold opC at hcb
    cases q3 : wxO W T b e with
    | none =>
      rw [q3] at a3
      have r7 : Rd T b e μ7 := a3
      have e0 : wxI none = -1 := rfl
      have g0 : ¬ ((0 : Int32) ≤ -1) := by decide
      simp only [e0, g0, if_false, false_imp_iff, and_true]
      refine ⟨a1, .inr ⟨_, rfl, f6, .inl ⟨rfl, b, o', P, c', g', r7, m6, L6, by omega, s5, s6, s7, fun _ => s8, fun y => ⟨(s9 y).1, fun w => ?_⟩⟩⟩⟩
      exfalso
      have hw := (s9 y).2
      unfold wxO at q3
      rw [if_pos y] at q3
      rw [q3] at hcb
      have := of_decide_eq_true hcb
      omega
    | some j =>
      have hz : b < e := by
        rcases Nat.lt_or_ge b e with y | y
        · exact y
        · unfold wxO at q3; rw [if_neg (by omega)] at q3; cases q3
      unfold wxO at q3
      rw [if_pos hz] at q3
      rw [q3] at hcb
      obtain ⟨x1, x2, x3, x4, x5⟩ := of_decide_eq_true hcb
      have r7 : Rd T (b + 1) e μ7 := by
        have : wxO W T b e = some j := by unfold wxO; rw [if_pos hz]; exact q3
        rw [this] at a3; exact a3
      have hj : j < 256 := by
        have := (ff_rg q3).2
        have := hW.2.1
        omega
      have e0 : wxI (some j) = nI j := rfl
      have g0 : (0 : Int32) ≤ nI j := by rw [fa_le, t0, nI_toInt (by omega)]; omega
      have hln := s5.ln (by unfold lnS; exact hlen)
      have hln' : o'.length + (P ++ k).length ≤ b := hln
      rw [List.length_append] at hln'
      have st1 : Rn T a (o, k, true, d, c, 0) (b + 1) (o' ++ P.map cdO, chT T b :: k, true, d, (fun i => if i = d ∧ brk (chT T b) = 1 then true else c' i), 0) := s5.tr (Rn.st (stp_b (fun y hy => by rw [x1]; exact s6 y hy) (by rw [x1]; exact hk) x3 x4 (fun y => by rw [s8]; exact hc (by omega))))
      obtain ⟨j1, j2, j3⟩ := ih2 (q + 1) (b + 1) (o' ++ P.map cdO) (chT T b :: k) d (fun i => if i = d ∧ brk (chT T b) = 1 then true else c' i) μ7 (by omega) ⟨r7, m6, hd4, L6, by rw [List.length_append, List.length_map, List.length_cons]; omega, he⟩ (fun _ => by show rkO (chT T b) < q + 1 + 1; omega) (fun y => absurd y (by omega)) (by omega)
      simp only [e0, g0, if_true, true_imp_iff, nI_1]
      rw [x5]
      generalize hF : (rdFP n).1 (some (nI (q + 1))) μ7 = Z at j2 j3 ⊢
      have f9 := f6.call j2 (by decide)
      rcases j3 with ⟨v1, b2, o2, P2, c2, g2, u1, u2, u3, u4, u5, u6, u7, u8, u9⟩ | ⟨v0, b2, S, m, u1, u2, u3, u4, u5, u6⟩
      · have hb2 := u1.2.2.1
        have hln2 := (st1.tr u5).ln (by unfold lnS; exact hlen)
        have hln2' : o2.length + (P2 ++ chT T b :: k).length ≤ b2 := hln2
        rw [List.length_append, List.length_cons] at hln2'
        obtain ⟨w1, w2⟩ := M_codes (x := cdO (chT T b)) u3 (by rw [List.length_append, List.length_map]; omega)
        rw [v1]
        simp only [o1, if_false, not_false_eq_true, true_imp_iff]
        refine ⟨⟨a1, j1, w1⟩, .inl ⟨_, rfl, by omega, ?_⟩⟩
        have f15 := f9.call (fs_X12_codes (nI (cdO (chT T b))) Z.2) (by decide)
        have r15 := u1.fs (fs_X12_codes (nI (cdO (chT T b))) Z.2) (by decide)
        have m15 : (e_X12_codes (nI (cdO (chT T b))) Z.2).1 49 12 = nI d := by rw [(fs_X12_codes (nI (cdO (chT T b))) Z.2).1 49 12 (by decide) (.inr (by decide))]; exact u2
        have L15 : LsM (o2 ++ (P2 ++ [chT T b]).map cdO) (e_X12_codes (nI (cdO (chT T b))) Z.2) := by
          rw [List.map_append, ← List.append_assoc]; exact w2
        have n15 : Rn T a (o, k, true, d, c, 0) b2 (o2, (P2 ++ [chT T b]) ++ k, false, d, c2, g2) := by
          rw [List.append_assoc]; exact st1.tr u5
        have p15 : ∀ x, x ∈ P2 ++ [chT T b] → q + 1 ≤ rkO x := fun x hx => by
          rcases List.mem_append.mp hx with y | y
          · have := u6 x y; omega
          · rw [List.mem_singleton.mp y]; omega
        have k15 : ∀ i, i < d → c2 i = c i := fun i hi => by
          rw [u7 i hi]
          show (if i = d ∧ brk (chT T b) = 1 then true else c' i) = c i
          rw [if_neg (by omega)]; exact s7 i hi
        have d15 : c2 d = (if d = d ∧ brk (chT T b) = 1 then true else c' d) := u8 (by omega)
        by_cases q0 : q = 0
        · have gq : nI q ≤ 0 := by rw [q0]; decide
          rw [if_pos gq]
          refine .inr ⟨_, rfl, f15, b2, o2, P2 ++ [chT T b], c2, g2, r15, m15, L15, by omega, n15, p15, k15, fun y => absurd y (by omega), fun y => ⟨(u9 y).1, fun w => ⟨q0, ?_, ?_⟩⟩⟩
          · rcases Nat.lt_or_ge (brk (chT T b2)) (q + 1 + 1) with z | z
            · omega
            · have := ((u9 y).2 z).1; omega
          · rw [d15, if_pos ⟨rfl, by omega⟩]
        · have gq : ¬ (nI q ≤ 0) := by rw [fa_le, t0, nI_toInt (by omega)]; omega
          rw [if_neg gq]
          refine .inl ⟨_, rfl, f15, b2, o2, P2 ++ [chT T b], c2, g2, r15, m15, L15, by omega, n15, p15, k15, ?_, fun y => ⟨(u9 y).1, ?_⟩⟩
          · rw [d15, if_neg (by omega)]; exact s8
          · rcases Nat.lt_or_ge (brk (chT T b2)) (q + 1 + 1) with z | z
            · omega
            · have := ((u9 y).2 z).1; omega
      · rw [v0]
        simp only [if_true, not_true_eq_false, false_imp_iff, and_true]
        rw [List.length_cons] at u3
        exact ⟨⟨a1, j1⟩, .inr ⟨_, rfl, f9, .inr ⟨rfl, b2, S, m, u1, u2, by omega, st1.tr u4, u5, u6⟩⟩⟩
  · dsimp only
    unfold sd_X12_readsRank_24 bd_X12_readsRank_24
    rw [if_pos rfl]
    exact ⟨fun y => absurd rfl y, .inr ⟨_, rfl, hf', .inl ⟨rfl, hs'⟩⟩⟩
theorem rank_s (hT : ∀ i, chT T i < 256) (ih1 : ThG T e n) (ih2 : RkG T e n) : RkG T e (n + 1) := by
  intro q a o k d c μ hq hp hk hc hn
  show pr_X12_readsRank (rdFP n).1 (rdFP n).2 (nI q) μ ∧ Rdg T e a o k d c q (vr_X12_readsRank (rdFP n).1 (rdFP n).2 (nI q) μ) μ (er_X12_readsRank (rdFP n).1 (rdFP n).2 (nI q) μ)
  have hp' := hp
  obtain ⟨hr, h12, hd4, hL, hlen, he⟩ := hp'
  unfold pr_X12_readsRank vr_X12_readsRank er_X12_readsRank
  simp only [forall_eq]
  have g3 : (nI q = 3) ↔ q = 3 := nI_eq (b := 3) (by omega) (by omega)
  simp only [g3]
  by_cases q3 : q = 3
  · subst q3
    simp only [if_true, true_imp_iff, not_true_eq_false, false_imp_iff, and_true]
    obtain ⟨j1, j2⟩ := ih1 a o k d c μ hp (by omega)
    refine ⟨⟨j1, nar_01 ?_⟩, j2⟩
    rcases j2.2 with h | h
    · exact .inl h.1
    · exact .inr h.1
  · simp only [q3, if_false, false_imp_iff, true_and, not_false_eq_true, true_imp_iff, nI_1]
    obtain ⟨j1, j2, j3⟩ := ih2 (q + 1) a o k d c μ (by omega) hp (fun y => by have := hk (by omega); omega) (fun y => absurd y (by omega)) (by omega)
    generalize hF : (rdFP n).1 (some (nI (q + 1))) μ = Z at j2 j3 ⊢
    rcases j3 with ⟨v1, b, o', P, c', g', s1, s2, s3, s4, s5, s6, s7, s8, s9⟩ | ⟨v0, hfa⟩
    · have o1 : ¬ ((1 : Int32) = 0) := by decide
      rw [v1]
      simp only [o1, if_false, not_false_eq_true, true_imp_iff]
      obtain ⟨l1, l2⟩ := rank_l (n := n) (μ := μ) (a := a) (o := o) (k := k) (d := d) (c := c) hT ih2 (q := q) (by omega) hd4 he hlen (hk (by omega)) hc hn j2 ⟨b, o', P, c', g', s1, s2, s3, by omega, s5, fun x hx => by have := s6 x hx; omega, s7, s8 (by omega), fun y => ⟨(s9 y).1, by
        rcases Nat.lt_or_ge (brk (chT T b)) (q + 1 + 1) with z | z
        · omega
        · have := ((s9 y).2 z).1; omega⟩⟩
      exact ⟨⟨j1, l1⟩, l2⟩
    · rw [v0]
      simp only [if_true, not_true_eq_false, false_imp_iff, and_true]
      exact ⟨j1, j2, .inr ⟨rfl, hfa⟩⟩
theorem reads_all (hT : ∀ i, chT T i < 256) : ∀ n, ThG T e n ∧ RkG T e n
  | 0 => ⟨fun a o k d c μ _ h => absurd h (by omega), fun q a o k d c μ _ _ _ _ h => absurd h (by omega)⟩
  | n + 1 => ⟨thing_s hT (reads_all hT n).1 (reads_all hT n).2, rank_s hT (reads_all hT n).1 (reads_all hT n).2⟩
end RK

/-! people: the model's reading loop -/
section LB
variable {T : List Nat} {e : Nat} {σ : ST} {R : List Int64} {μ : Mm}
def gdL (T : List Nat) (room e : Nat) : Bool := decide (bdL T room e = e) && decide (e % 4 = 3)
def lnM (T : List Nat) (e k : Nat) (μ : Mm) : Prop := ∀ j, j < k → μ.1 55 j = dgI T (4 * j) ∧ μ.1 56 j = sgV T (4 * j + 1) e
theorem M_pp29 (hm : MSR σ R μ) (hr : Rd T 0 e μ) (hT : ∀ i, chT T i < 256) (he : 0 < e) (he2 : e ≤ 27) (hn : f_n (s_F σ) ≤ 7) (h16 : μ.1 49 16 = nI 0) (x : Int32) : whP (fun s : Int32 × Int32 × Int32 × Mm => bd_X12_people_29 s.1 s.2.1 s.2.2.1 s.2.2.2) (fun s : Int32 × Int32 × Int32 × Mm => sd_X12_people_29 s.1 s.2.1 s.2.2.1 s.2.2.2) FU (x, 1, 1, μ) ∧ (fun z : Int32 × Int32 × Mm => z.1 = x ∧ MSR σ R z.2.2 ∧ Rd T (bdL T (7 - f_n (s_F σ)) e) e z.2.2 ∧ (if gdL T (7 - f_n (s_F σ)) e then z.2.1 = 1 ∧ (z.2.2).1 49 16 = nI ((e + 1) / 4) ∧ lnM T e ((e + 1) / 4) z.2.2 ∧ f_n (s_F σ) + (e + 1) / 4 ≤ 7 else z.2.1 = 0 ∨ bdL T (7 - f_n (s_F σ)) e ≠ e)) (whl (fun s : Int32 × Int32 × Int32 × Mm => bd_X12_people_29 s.1 s.2.1 s.2.2.1 s.2.2.2) (fun s : Int32 × Int32 × Int32 × Mm => (0, 0, s.2.2.2)) FU (x, 1, 1, μ)) := by
  refine lpI (f := fun s : Int32 × Int32 × Int32 × Mm => bd_X12_people_29 s.1 s.2.1 s.2.2.1 s.2.2.2) (sd := fun s : Int32 × Int32 × Int32 × Mm => sd_X12_people_29 s.1 s.2.1 s.2.2.1 s.2.2.2) (dd := fun s : Int32 × Int32 × Int32 × Mm => (0, 0, s.2.2.2)) (I := fun i s => (i ≤ 6 ∧ ∃ b μ', s = (x, b, 1, μ') ∧ MSR σ R μ' ∧ Rd T (4 * i) e μ' ∧ μ'.1 49 16 = nI i ∧ lnM T e i μ' ∧ f_n (s_F σ) + i ≤ 7 ∧ ∀ j, j < 4 * i → stL T (7 - f_n (s_F σ)) j = true) ∨ (i ≤ 8 ∧ ∃ b μ', s = (x, b, 0, μ') ∧ MSR σ R μ' ∧ Rd T (bdL T (7 - f_n (s_F σ)) e) e μ' ∧ (if gdL T (7 - f_n (s_F σ)) e then b = 1 ∧ μ'.1 49 16 = nI ((e + 1) / 4) ∧ lnM T e ((e + 1) / 4) μ' ∧ f_n (s_F σ) + (e + 1) / 4 ≤ 7 else b = 0 ∨ bdL T (7 - f_n (s_F σ)) e ≠ e)))
    (R := fun z : Int32 × Int32 × Mm => z.1 = x ∧ MSR σ R z.2.2 ∧ Rd T (bdL T (7 - f_n (s_F σ)) e) e z.2.2 ∧ (if gdL T (7 - f_n (s_F σ)) e then z.2.1 = 1 ∧ (z.2.2).1 49 16 = nI ((e + 1) / 4) ∧ lnM T e ((e + 1) / 4) z.2.2 ∧ f_n (s_F σ) + (e + 1) / 4 ≤ 7 else z.2.1 = 0 ∨ bdL T (7 - f_n (s_F σ)) e ≠ e)) 9 (by omega) ?_ (s0 := (x, 1, 1, μ)) (.inl ⟨by omega, 1, μ, rfl, hm, hr, h16, fun j hj => absurd hj (by omega), by omega, fun j hj => absurd hj (by omega)⟩)
  rintro i _ hi (⟨hi2, b, μ', rfl, hm', hr', hk, hln, hnk, hs⟩ | ⟨hi2, b, μ', rfl, hm', hr', hg⟩)
  · dsimp only
    unfold sd_X12_people_29 bd_X12_people_29
    simp only [forall_eq]
    have h4 : 4 * i ≤ e := hr'.2.2.1
    obtain ⟨a1, a2, a3, a4⟩ := R_one hr' hT (n := f_n (s_F σ)) (k := i) hn (by omega) hm'.1.F.sz hk
    obtain ⟨b1, b2⟩ := pt_ok (T := T) (n := f_n (s_F σ)) (k := i) hnk h4 hs
    have f3 := fs_X12_readsOne μ'
    have hm3 : MSR σ R (e_X12_readsOne μ') := ⟨hm'.1.fs f3 (by decide), hm'.2.fs f3 (by decide)⟩
    rw [if_neg (show ¬ ((1 : Int32) = 0) by decide), a2]
    generalize e_X12_readsOne μ' = μ3 at a3 a4 hm3 ⊢
    simp only [one0]
    cases q : okO T (f_n (s_F σ)) i (4 * i) e
    · obtain ⟨c1, c2⟩ := b2 q
      simp only [Bool.false_eq_true, not_false_eq_true, if_true, if_false]
      refine ⟨fun _ => ⟨a1, fun y => absurd trivial y⟩, .inl ⟨_, rfl, by omega, .inr ⟨by omega, 0, μ3, rfl, hm3, by rw [c1]; exact a3, ?_⟩⟩⟩
      have : gdL T (7 - f_n (s_F σ)) e = false := by
        unfold gdL
        by_cases w : bdL T (7 - f_n (s_F σ)) e = e
        · rw [decide_eq_true w, decide_eq_false (c2 w)]; rfl
        · rw [decide_eq_false w]; rfl
      rw [this]
      exact .inl rfl
    · obtain ⟨c1, c2, c3, c4⟩ := b1 q
      obtain ⟨d1, d2, d3, d4⟩ := a4 q
      rw [c1] at a3
      simp only [not_true_eq_false, if_false, not_false_eq_true, if_true, true_imp_iff]
      obtain ⟨t1, t2, t3⟩ := R_takes a3 hT (c := 59) (by omega)
      have e59 : nI 59 = 59 := rfl
      rw [e59] at t1 t2 t3
      have f8 := fs_X12_takes 59 μ3
      have hm8 : MSR σ R (e_X12_takes 59 μ3) := ⟨hm3.1.fs f8 (by decide), hm3.2.fs f8 (by decide)⟩
      have k8 : (e_X12_takes 59 μ3).1 49 16 = nI (i + 1) := by rw [f8.1 49 16 (by decide) (.inr (by decide))]; exact d1
      have l8 : lnM T e (i + 1) (e_X12_takes 59 μ3) := fun j hj => by
        rw [f8.1 55 j (by decide) (.inl (by decide)), f8.1 56 j (by decide) (.inl (by decide))]
        by_cases w : j = i
        · subst w; exact ⟨d2, d3⟩
        · rw [(d4 j (by omega)).1, (d4 j (by omega)).2]; exact hln j (by omega)
      rw [t2]
      simp only [one0]
      generalize e_X12_takes 59 μ3 = μ8 at t3 hm8 k8 l8 ⊢
      have z3 := st3 (T := T) (room := 7 - f_n (s_F σ)) (k := i)
      cases q2 : (decide (4 * i + 3 < e) && decide (chT T (4 * i + 3) = 59))
      · rw [q2] at t3
        simp only [Bool.false_eq_true, not_false_eq_true, if_true, if_false] at t3 ⊢
        have eb : bdL T (7 - f_n (s_F σ)) e = 4 * i + 3 := bdL_is c2 c4 (fun y => by
          rw [decide_eq_true y, Bool.true_and] at q2
          rw [z3, q2])
        refine ⟨fun _ => ⟨a1, t1⟩, .inl ⟨_, rfl, by omega, .inr ⟨by omega, 1, μ8, rfl, hm8, by rw [eb]; exact t3, ?_⟩⟩⟩
        unfold gdL
        rw [eb]
        by_cases w : 4 * i + 3 = e
        · rw [decide_eq_true w, decide_eq_true (show e % 4 = 3 by omega), show (e + 1) / 4 = i + 1 by omega]
          exact ⟨rfl, k8, l8, by omega⟩
        · rw [decide_eq_false w]
          exact .inr w
      · rw [q2] at t3
        simp only [if_true, not_true_eq_false, if_false] at t3 ⊢
        simp only [Bool.and_eq_true, decide_eq_true_eq] at q2
        refine ⟨fun _ => ⟨a1, t1⟩, .inl ⟨_, rfl, by omega, .inl ⟨by omega, 1, μ8, rfl, hm8, ?_, k8, l8, by omega, fun j hj => ?_⟩⟩⟩
        · rw [show 4 * (i + 1) = 4 * i + 3 + 1 by omega]; exact t3
        · by_cases w : j = 4 * i + 3
          · rw [w, z3, decide_eq_true q2.2]
          · exact c4 j (by omega)
  · dsimp only
    unfold sd_X12_people_29 bd_X12_people_29
    rw [if_pos rfl]
    exact ⟨fun y => absurd rfl y, .inr ⟨_, rfl, rfl, hm', hr', hg⟩⟩
end LB

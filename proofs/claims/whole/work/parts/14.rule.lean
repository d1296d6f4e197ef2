/-! a rule: its codes, what it is worth (numbers below 1000; 1000 + what is asked; 2000 + what is done; 3000: less) -/
def sgnA (a : Nat) : Int32 := if a = 0 then 60 else if a = 1 then 62 else if a = 2 then 61 else if a = 3 then 43 else if a = 4 then 45 else if a = 5 then 42 else 47
def tokC (t : Nat) : Int32 := if t < 1000 then nI t else if t < 2000 then -1 - nI (t - 1000) else if t < 3000 then -(sgnA (t - 2000)) else -126
def okT (t : Nat) : Prop := t < 1000 ∨ (1000 ≤ t ∧ t < 1007) ∨ (2000 ≤ t ∧ t < 2007) ∨ t = 3000
def ev1 (th : Nat → Int32) (t : Nat) (st : List Int32) : List Int32 :=
  if t < 1000 then nI t :: st else if t < 2000 then th (t - 1000) :: st else if t = 3000 then (match st with | a :: r => (-a) :: r | [] => []) else (match st with | b :: a :: r => v_X12_worked (nI (t - 2000)) a b :: r | s => s)
def evl (th : Nat → Int32) : List Nat → List Int32 → List Int32
  | [], st => st
  | t :: r, st => evl th r (ev1 th t st)
def wfd : List Nat → Nat → Prop
  | [], d => d = 1
  | t :: r, d => okT t ∧ (t < 2000 → wfd r (d + 1)) ∧ (t = 3000 → 1 ≤ d ∧ wfd r d) ∧ (2000 ≤ t → t < 3000 → 2 ≤ d ∧ wfd r (d - 1))
def StR : List Int32 → (Nat → Int32) → Prop
  | [], _ => True
  | a :: r, f => f r.length = a ∧ StR r f
theorem StR.up {v : Int32} {f : Nat → Int32} : ∀ {st : List Int32} {j : Nat}, StR st f → st.length ≤ j → StR st (upd f j v)
  | [], _, _, _ => trivial
  | a :: r, j, h, hj => by
    refine ⟨?_, StR.up h.2 (by simp at hj; omega)⟩
    unfold upd
    simp at hj
    rw [if_neg (by omega)]
    exact h.1
theorem rIk {μ : Mm} {k j : Nat} {v : Int32} : (upI μ k j v).1 k = upd (μ.1 k) j v := by simp [upI]
theorem nI_m1 (d : Nat) : nI (d + 1) + (-1) = nI d := by
  rw [← nI_pred d, Int32.sub_eq_add_neg]
def RuC (b : Nat) (r : List Nat) (μ : Mm) : Prop := r.length ≤ 40 ∧ wfd r 0 ∧ μ.1 b 1 = nI r.length ∧ (∀ i, i < r.length → μ.1 (b + 1) i = tokC (r.getD i 0)) ∧ μ.1 b 2 = (if 1004 ∈ r then 1 else 0)
def RuM (r : List Nat) (μ : Mm) : Prop := (0 < r.length ∧ μ.1 49 19 = nI r.length ∧ ∀ i, i < r.length → μ.1 57 i = nI (r.getD i 0)) ∨ (μ.1 49 19 = 0 ∧ r = [1000, 1001, 2004])
theorem done_eq {a : Nat} (h : a < 7) (x y : Int32) : v_X5_done (sgnA a) x y = v_X12_worked (nI a) x y := by
  have : a = 0 ∨ a = 1 ∨ a = 2 ∨ a = 3 ∨ a = 4 ∨ a = 5 ∨ a = 6 := by omega
  rcases this with rfl | rfl | rfl | rfl | rfl | rfl | rfl <;> unfold v_X5_done v_X12_worked v_X12_flag sgnA <;> by_cases h1 : y ≤ x <;> by_cases h2 : x ≤ y <;> by_cases h3 : x = y <;> simp +decide [nI, h1, h2, h3]
theorem done_p (s x y : Int32) : p_X5_done s x y := by
  intro _ _ _ _ h; exact h
theorem work_p (s x y : Int32) : p_X12_worked s x y := by
  intro _ _ _ _ _ _ h; exact h
theorem okT_cases {t : Nat} (h : okT t) : (t < 1000 ∧ tokC t = nI t) ∨ (∃ u, u < 7 ∧ t = 1000 + u ∧ tokC t = -1 - nI u) ∨ (∃ a, a < 7 ∧ t = 2000 + a ∧ tokC t = -(sgnA a)) ∨ (t = 3000 ∧ tokC t = -126) := by
  unfold tokC
  rcases h with h | ⟨h1, h2⟩ | ⟨h1, h2⟩ | h
  · exact .inl ⟨h, if_pos h⟩
  · exact .inr (.inl ⟨t - 1000, by omega, by omega, by rw [if_neg (by omega), if_pos (by omega)]⟩)
  · exact .inr (.inr (.inl ⟨t - 2000, by omega, by omega, by rw [if_neg (by omega), if_neg (by omega), if_pos (by omega)]⟩))
  · exact .inr (.inr (.inr ⟨h, by rw [if_neg (by omega), if_neg (by omega), if_neg (by omega)]⟩))
theorem num_f : ∀ t, t < 1000 → ¬ (nI t < (-7)) ∧ ¬ ((Int32.ofNat 7) ≤ (-1) - nI t) ∧ ¬ (nI t < 0) := by decide +kernel
theorem thg_f : ∀ u, u < 7 → ¬ ((-1) - nI u < (-7)) ∧ (-1) - ((-1) - nI u) = nI u ∧ ¬ ((Int32.ofNat 7) ≤ nI u) ∧ ((-1) - nI u < 0) := by decide +kernel
theorem act_f : ∀ a, a < 7 → (-(sgnA a) < (-7)) ∧ ¬ (-(sgnA a) = (-126)) ∧ -(-(sgnA a)) = sgnA a := by decide +kernel
theorem neg_f : ((-126 : Int32) < (-7)) := by decide +kernel
theorem lt41 : ∀ d, d ≤ 40 → ¬ ((Int32.ofNat 41) ≤ nI d) := by decide +kernel
section RV
variable {b c : Nat} {r : List Nat} {μ : Mm} {th : Nat → Int32}
theorem drop_cons {r : List Nat} {i : Nat} (h : i < r.length) : r.drop i = r.getD i 0 :: r.drop (i + 1) := by
  rw [List.drop_eq_getElem_cons h]
  simp [List.getD, h]
theorem C_value (h : RuC b r μ) (ht : ∀ i, i < 7 → μ.1 c i = th i) (hc : c ≠ b ∧ c ≠ b + 1 ∧ c ≠ b + 2) : p_X5_value b c μ ∧ v_X5_value b c μ = (evl th r []).headD 0 := by
  obtain ⟨hl, hw, h1, hcode, -⟩ := h
  have key := lpI (f := fun s : Int32 × Int32 × Mm => bd_X5_value_4 b c s.1 s.2.1 s.2.2) (sd := fun s : Int32 × Int32 × Mm => sd_X5_value_4 b c s.1 s.2.1 s.2.2) (dd := fun s : Int32 × Int32 × Mm => (0, s.2.2))
    (I := fun i s => ∃ (st : List Int32) (μ' : Mm), s = (nI st.length, nI i, μ') ∧ st.length ≤ i ∧ i ≤ r.length ∧ wfd (r.drop i) st.length ∧ evl th (r.drop i) st = evl th r [] ∧ StR st (μ'.1 (b + 2)) ∧ ∀ k, k ≠ b + 2 → μ'.1 k = μ.1 k)
    (R := fun z => ∃ (a : Int32) (μ' : Mm), z = (1, μ') ∧ evl th r [] = [a] ∧ μ'.1 (b + 2) 0 = a) r.length (by omega) ?_ (s0 := (0, 0, μ)) ⟨[], μ, rfl, Nat.le_refl _, Nat.zero_le _, hw, rfl, trivial, fun _ _ => rfl⟩
  · obtain ⟨kp, a, μ', e, ea, ev⟩ := key
    unfold p_X5_value v_X5_value
    refine ⟨⟨kp, ?_⟩, ?_⟩
    · rintro _ rfl
      rw [e]
      intro _
      show vp_in ((1 : Int32) - 1) 41
      rw [show (1 : Int32) - 1 = nI 0 by decide +kernel]
      exact vp_in_nI (by omega) (by omega)
    · dsimp only
      rw [e, ea]
      dsimp only
      rw [if_neg (by decide)]
      exact ev
  · rintro i _ hi ⟨st, μ', rfl, hs, hir, hwf, hev, hst, hfr⟩
    dsimp only
    have e1 : μ'.1 b = μ.1 b := hfr b (by omega)
    have e2 : μ'.1 (b + 1) = μ.1 (b + 1) := hfr (b + 1) (by omega)
    have e3 : μ'.1 c = μ.1 c := hfr c hc.2.2
    rcases Nat.lt_or_ge i r.length with q | q
    · rw [drop_cons q] at hwf hev
      have hcd := hcode i q
      generalize htt : r.getD i 0 = t at hwf hev hcd
      obtain ⟨hok, w1, w2, w3⟩ := hwf
      have n1 : ¬ (nI r.length ≤ nI i) := nI_ge q (by omega)
      have n2 : ¬ ((Int32.ofNat 41) ≤ nI i) := lt41 i (by omega)
      have n3 : ¬ ((Int32.ofNat 41) ≤ nI st.length) := lt41 _ (by omega)
      unfold sd_X5_value_4 bd_X5_value_4
      rw [e1, e2, e3, h1, nI_clamp (show i < 2 ^ 31 by omega), hcd, if_neg n1, if_neg n2, nI_1]
      rcases okT_cases hok with ⟨ht1, tc⟩ | ⟨u, hu, rfl, tc⟩ | ⟨a, ha, rfl, tc⟩ | ⟨rfl, tc⟩ <;> rw [tc]
      · obtain ⟨f1, f2, f3⟩ := num_f t ht1
        refine ⟨fun _ _ => ⟨vp_in_nI (by omega) (by omega), fun z => absurd z f1, fun _ _ _ => ⟨fun z => absurd z f3, vp_in_nI (by omega) (by omega)⟩⟩, .inl ⟨_, rfl, by omega, nI t :: st, upI μ' (b + 2) st.length (nI t), ?_, by simp; omega, by omega, w1 (by omega), ?_, ?_, ?_⟩⟩
        · simp only [if_neg f1, if_neg n3, if_neg f2, if_neg f3, nI_1, nI_clamp (show st.length < 2 ^ 31 by omega), List.length_cons]
        · rw [← hev]; show evl th _ _ = evl th _ (ev1 th t st); unfold ev1; rw [if_pos ht1]
        · rw [rIk]; exact ⟨if_pos rfl, hst.up (Nat.le_refl _)⟩
        · intro k hk; rw [rIc hk]; exact hfr k hk
      · obtain ⟨f1, f2, f3, f4⟩ := thg_f u hu
        rw [f2]
        refine ⟨fun _ _ => ⟨vp_in_nI (by omega) (by omega), fun z => absurd z f1, fun _ _ _ => ⟨fun _ => vp_in_nI (by omega) (by omega), vp_in_nI (by omega) (by omega)⟩⟩, .inl ⟨_, rfl, by omega, th u :: st, upI μ' (b + 2) st.length (th u), ?_, by simp; omega, by omega, w1 (by omega), ?_, ?_, ?_⟩⟩
        · simp only [if_neg f1, if_neg n3, if_neg f3, if_pos f4, nI_1, nI_clamp (show st.length < 2 ^ 31 by omega), nI_clamp (show u < 2 ^ 31 by omega), List.length_cons, ht u hu]
        · rw [← hev]; show evl th _ _ = evl th _ (ev1 th (1000 + u) st); unfold ev1; rw [if_neg (by omega), if_pos (by omega), show 1000 + u - 1000 = u by omega]
        · rw [rIk]; exact ⟨if_pos rfl, hst.up (Nat.le_refl _)⟩
        · intro k hk; rw [rIc hk]; exact hfr k hk
      · obtain ⟨f1, f2, f3⟩ := act_f a ha
        obtain ⟨w4, w5⟩ := w3 (by omega) (by omega)
        match st, w4, w5, hst, hs, n3, hev with
        | y :: x :: st', _, w5, hst, hs, n3, hev =>
          have hs' : st'.length + 2 ≤ i := by simpa using hs
          have g1 : ¬ (nI (st'.length + 1 + 1) ≤ 1) := nI_ge (a := 1) (by omega) (by omega)
          have g2 : μ'.1 (b + 2) (st'.length + 1) = y := hst.1
          have g3 : μ'.1 (b + 2) st'.length = x := hst.2.1
          simp only [List.length_cons, if_pos f1, if_neg f2, if_neg g1, nI_m1, nI_pred, nI_1, nI_clamp (show st'.length < 2 ^ 31 by omega), nI_clamp (show st'.length + 1 < 2 ^ 31 by omega), g2, g3, f3, done_eq ha]
          refine ⟨fun _ _ => ⟨vp_in_nI (by omega) (by omega), fun _ => ⟨fun z => absurd z f2, fun _ _ => ⟨vp_in_nI (by omega) (by omega), vp_in_nI (by omega) (by omega), done_p _ _ _, vp_in_nI (by omega) (by omega)⟩⟩, fun z => absurd f1 z⟩, .inl ⟨_, rfl, by omega, v_X12_worked (nI a) x y :: st', upI μ' (b + 2) st'.length (v_X12_worked (nI a) x y), rfl, by simp; omega, by omega, ?_, ?_, ?_, ?_⟩⟩
          · simpa using w5
          · rw [← hev]; show evl th _ _ = evl th _ (ev1 th (2000 + a) (y :: x :: st')); unfold ev1; rw [if_neg (by omega), if_neg (by omega), if_neg (by omega), show 2000 + a - 2000 = a by omega]
          · rw [rIk]; exact ⟨if_pos rfl, hst.2.2.up (Nat.le_refl _)⟩
          · intro k hk; rw [rIc hk]; exact hfr k hk
      · obtain ⟨w4, w5⟩ := w2 rfl
        match st, w4, w5, hst, hs, n3, hev with
        | x :: st', _, w5, hst, hs, n3, hev =>
          have hs' : st'.length + 1 ≤ i := by simpa using hs
          have g1 : ¬ (nI (st'.length + 1) ≤ 0) := nI_ge (a := 0) (by omega) (by omega)
          have g3 : μ'.1 (b + 2) st'.length = x := hst.1
          simp only [List.length_cons, if_pos neg_f, if_true, if_neg g1, nI_pred, nI_1, nI_clamp (show st'.length < 2 ^ 31 by omega), g3]
          refine ⟨fun _ _ => ⟨vp_in_nI (by omega) (by omega), fun _ => ⟨fun _ _ => ⟨vp_in_nI (by omega) (by omega), vp_in_nI (by omega) (by omega)⟩, fun z => absurd trivial z⟩, fun z => absurd neg_f z⟩, .inl ⟨_, rfl, by omega, (-x) :: st', upI μ' (b + 2) st'.length (-x), rfl, by simp; omega, by omega, ?_, ?_, ?_, ?_⟩⟩
          · simpa using w5
          · rw [← hev]; rfl
          · rw [rIk]; exact ⟨if_pos rfl, hst.2.up (Nat.le_refl _)⟩
          · intro k hk; rw [rIc hk]; exact hfr k hk
    · have : i = r.length := by omega
      subst this
      have n1 : nI r.length ≤ nI r.length := nI_le (Nat.le_refl _) (by omega)
      unfold sd_X5_value_4 bd_X5_value_4
      rw [e1, h1, if_pos n1]
      rw [List.drop_length] at hwf hev
      refine ⟨fun z => absurd n1 z, .inr ⟨_, rfl, ?_⟩⟩
      match st, hwf, hst, hev with
      | [a], _, hst, hev => exact ⟨a, μ', rfl, hev.symm, hst.1⟩
end RV

/-! names for what the floor's pictures say -/
theorem FlC.sz {b : Nat} {F : FL} {μ : Mm} (h : FlC b F μ) : μ.1 b 0 = nI (f_n F) := h.2.1
theorem FlC.w {b : Nat} {F : FL} {μ : Mm} (h : FlC b F μ) {i : Nat} (hi : i < 7) : μ.1 (b + 1) i = f_w F i := h.2.2.1 i hi
theorem FlC.h {b : Nat} {F : FL} {μ : Mm} (h : FlC b F μ) {i : Nat} (hi : i < 7) : μ.1 (b + 2) i = f_h F i := h.2.2.2.1 i hi
theorem FlC.p {b : Nat} {F : FL} {μ : Mm} (h : FlC b F μ) {i : Nat} (hi : i < 7) : μ.1 (b + 3) i = f_p F i := h.2.2.2.2.1 i hi
theorem FlC.k {b : Nat} {F : FL} {μ : Mm} (h : FlC b F μ) {i : Nat} (hi : i < 7) : μ.1 (b + 4) i = f_k F i := h.2.2.2.2.2.1 i hi
theorem FlC.o {b : Nat} {F : FL} {μ : Mm} (h : FlC b F μ) : μ.1 b 5 = f_o F := h.2.2.2.2.2.2.1
theorem FlC.t {b : Nat} {F : FL} {μ : Mm} (h : FlC b F μ) : μ.1 b 6 = f_t F := h.2.2.2.2.2.2.2.1
theorem FlC.z {b : Nat} {F : FL} {μ : Mm} (h : FlC b F μ) : μ.1 b 7 = f_z F := h.2.2.2.2.2.2.2.2
theorem FlM.sz {r : Nat} {F : FL} {μ : Mm} (h : FlM r F μ) : μ.1 49 3 = nI (f_n F) := h.2.1
theorem FlM.w {r : Nat} {F : FL} {μ : Mm} (h : FlM r F μ) {i : Nat} (hi : i < 7) : μ.1 51 i = f_w F i := h.2.2.1 i hi
theorem FlM.h {r : Nat} {F : FL} {μ : Mm} (h : FlM r F μ) {i : Nat} (hi : i < 7) : μ.1 r i = f_h F i := h.2.2.2.1 i hi
theorem FlM.p {r : Nat} {F : FL} {μ : Mm} (h : FlM r F μ) {i : Nat} (hi : i < 7) : μ.1 r (7 + i) = f_p F i := h.2.2.2.2.1 i hi
theorem FlM.k {r : Nat} {F : FL} {μ : Mm} (h : FlM r F μ) {i : Nat} (hi : i < 7) : μ.1 r (14 + i) = f_k F i := h.2.2.2.2.2.1 i hi
theorem FlM.o {r : Nat} {F : FL} {μ : Mm} (h : FlM r F μ) : μ.1 r 21 = f_o F := h.2.2.2.2.2.2.1
theorem FlM.t {r : Nat} {F : FL} {μ : Mm} (h : FlM r F μ) : μ.1 r 22 = f_t F := h.2.2.2.2.2.2.2.1
theorem FlM.z {r : Nat} {F : FL} {μ : Mm} (h : FlM r F μ) : μ.1 r 23 = f_z F := h.2.2.2.2.2.2.2.2
theorem FlC.up {b : Nat} {F : FL} {μ : Mm} {k j : Nat} {v : Int32} (h : FlC b F μ) (hk : k < b ∨ b + 4 < k) : FlC b F (upI μ k j v) := by
  unfold FlC at h ⊢
  rw [rIc (by omega), rIc (by omega), rIc (by omega), rIc (by omega), rIc (by omega)]
  exact h
theorem FlM.up {r : Nat} {F : FL} {μ : Mm} {k j : Nat} {v : Int32} (h : FlM r F μ) (hk : k ≠ r ∧ k ≠ 51 ∧ (k = 49 → j ≠ 3)) : FlM r F (upI μ k j v) := by
  unfold FlM at h ⊢
  rw [rIc (a := r) (by omega), rIc (a := 51) (by omega)]
  have : (upI μ k j v).1 49 3 = μ.1 49 3 := by
    rw [rI]
    rw [if_neg (by rintro ⟨rfl, e⟩; exact hk.2.2 rfl e.symm)]
  rw [this]
  exact h
theorem cc0 : Int32.toNatClampNeg 0 = 0 := by decide +kernel
theorem cc1 : Int32.toNatClampNeg 1 = 1 := by decide +kernel
theorem cc2 : Int32.toNatClampNeg 2 = 2 := by decide +kernel
theorem cc3 : Int32.toNatClampNeg 3 = 3 := by decide +kernel
theorem cc4 : Int32.toNatClampNeg 4 = 4 := by decide +kernel
theorem cc5 : Int32.toNatClampNeg 5 = 5 := by decide +kernel
theorem cc6 : Int32.toNatClampNeg 6 = 6 := by decide +kernel
/-! ranges -/
def RgF (F : FL) : Prop := f_n F ≤ 7 ∧ (∀ i, i < 7 → (0 ≤ (f_w F i).toInt ∧ (f_w F i).toInt ≤ 9) ∧ (-9 ≤ (f_h F i).toInt ∧ (f_h F i).toInt ≤ 9) ∧ (-9 ≤ (f_p F i).toInt ∧ (f_p F i).toInt ≤ 9) ∧ 0 ≤ (f_k F i).toInt ∧ (f_k F i).toInt ≤ 9) ∧ (∀ i, i < f_n F → 1 ≤ (f_w F i).toInt) ∧ (∀ i, f_n F ≤ i → i < 32 → bt (f_o F) i = false) ∧ (∀ i, f_n F ≤ i → i < 7 → f_w F i = 0 ∧ f_h F i = 0 ∧ f_p F i = 0 ∧ f_k F i = 0)
theorem t0 : (0 : Int32).toInt = 0 := by decide +kernel
theorem t1 : (1 : Int32).toInt = 1 := by decide +kernel
theorem tm1 : (-1 : Int32).toInt = -1 := by decide +kernel
theorem t9 : (9 : Int32).toInt = 9 := by decide +kernel
theorem tm9 : (-9 : Int32).toInt = -9 := by decide +kernel
theorem toInt_addS {a b : Int32} (h : -2147483648 ≤ a.toInt + b.toInt ∧ a.toInt + b.toInt < 2147483648) : (a + b).toInt = a.toInt + b.toInt := by
  rw [Int32.toInt_add]
  exact Int.bmod_eq_of_le (by omega) (by omega)
theorem toInt_subS {a b : Int32} (h : -2147483648 ≤ a.toInt - b.toInt ∧ a.toInt - b.toInt < 2147483648) : (a - b).toInt = a.toInt - b.toInt := by
  rw [Int32.toInt_sub]
  exact Int.bmod_eq_of_le (by omega) (by omega)
theorem toInt_negS {a : Int32} (h : -2147483647 ≤ a.toInt) (h2 : a.toInt ≤ 2147483647) : (-a).toInt = -a.toInt := by
  rw [Int32.toInt_neg]
  exact Int.bmod_eq_of_le (by omega) (by omega)
theorem toInt_mulS {a b : Int32} (h : -2147483648 ≤ a.toInt * b.toInt ∧ a.toInt * b.toInt < 2147483648) : (a * b).toInt = a.toInt * b.toInt := by
  rw [Int32.toInt_mul]
  exact Int.bmod_eq_of_le (by omega) (by omega)
theorem dirA_rg (x : Int32) : dirA x = 0 ∨ dirA x = 1 ∨ dirA x = -1 := by
  unfold dirA
  by_cases h1 : x ≤ 0
  · by_cases h2 : 0 ≤ x <;> simp [h1, h2]
  · simp [h1]
theorem dirA_t (x : Int32) : (dirA x).toInt = 0 ∨ (dirA x).toInt = 1 ∨ (dirA x).toInt = -1 := by
  rcases dirA_rg x with h | h | h <;> rw [h] <;> decide +kernel
/-! a rule asks only what it names -/
theorem wfd_ok : ∀ {r : List Nat} {d : Nat}, wfd r d → ∀ t, t ∈ r → okT t
  | [], _, _, t, ht => by simp at ht
  | a :: r, d, ⟨h1, h2, h3, h4⟩, t, ht => by
    rcases List.mem_cons.mp ht with e | e
    · rw [e]; exact h1
    · rcases h1 with q | ⟨q, q'⟩ | ⟨q, q'⟩ | q
      · exact wfd_ok (h2 (by omega)) t e
      · exact wfd_ok (h2 (by omega)) t e
      · exact wfd_ok (h4 (by omega) (by omega)).2 t e
      · exact wfd_ok (h3 q).2 t e
theorem evl_congr {th th' : Nat → Int32} : ∀ {r : List Nat} {st : List Int32}, (∀ t, t ∈ r → okT t) → (∀ u, u < 7 → 1000 + u ∈ r → th u = th' u) → evl th r st = evl th' r st
  | [], _, _, _ => rfl
  | a :: r, st, hok, h => by
    show evl th r (ev1 th a st) = evl th' r (ev1 th' a st)
    have e : ev1 th a st = ev1 th' a st := by
      unfold ev1
      by_cases h1 : a < 1000
      · rw [if_pos h1, if_pos h1]
      · rw [if_neg h1, if_neg h1]
        by_cases h2 : a < 2000
        · rw [if_pos h2, if_pos h2]
          have ha := hok a (List.mem_cons_self ..)
          have hu : a - 1000 < 7 := by
            rcases ha with q | ⟨q, q'⟩ | ⟨q, q'⟩ | q <;> omega
          rw [h (a - 1000) hu (by rw [show 1000 + (a - 1000) = a by omega]; exact List.mem_cons_self ..)]
        · rw [if_neg h2, if_neg h2]
    rw [e]
    exact evl_congr (fun t ht => hok t (List.mem_cons_of_mem _ ht)) (fun u hu hm => h u hu (List.mem_cons_of_mem _ hm))
theorem M_ruled {r : List Nat} {μ : Mm} {th : Nat → Int32} (hl : r.length ≤ 40) (hw : wfd r 0) (h : RuM r μ) (ht : ∀ i, i < 7 → μ.1 60 i = th i) : p_X12_ruled μ ∧ v_X12_ruled μ = (evl th r []).headD 0 := by
  have key := lpI (f := fun s : Int32 × Int32 × Mm => bd_X12_ruled_4 s.1 s.2.1 s.2.2) (sd := fun s : Int32 × Int32 × Mm => sd_X12_ruled_4 s.1 s.2.1 s.2.2) (dd := fun s : Int32 × Int32 × Mm => s.2.2)
    (I := fun i s => (μ.1 49 19 = 0 ∧ i = 0 ∧ s = (0, 0, μ)) ∨ (μ.1 49 19 ≠ 0 ∧ ∃ (st : List Int32) (μ' : Mm), s = (nI st.length, nI i, μ') ∧ st.length ≤ i ∧ i ≤ r.length ∧ wfd (r.drop i) st.length ∧ evl th (r.drop i) st = evl th r [] ∧ StR st (μ'.1 59) ∧ ∀ k, k ≠ 59 → μ'.1 k = μ.1 k))
    (R := fun z => (z = μ ∧ μ.1 49 19 = 0) ∨ (z.1 49 = μ.1 49 ∧ μ.1 49 19 ≠ 0 ∧ ∃ (a : Int32), evl th r [] = [a] ∧ z.1 59 0 = a)) r.length (by omega) ?_ (s0 := (0, 0, μ)) ?_
  · obtain ⟨kp, e⟩ := key
    unfold p_X12_ruled v_X12_ruled
    refine ⟨kp, ?_⟩
    generalize whl _ _ FU _ = z at e ⊢
    rcases e with ⟨rfl, e⟩ | ⟨e1, e2, a, e3, e4⟩
    · dsimp only
      rcases h with ⟨h1, h2, -⟩ | ⟨h1, rfl⟩
      · rw [h2] at e
        exact absurd e (nI_ne0 h1 (by omega))
      · rw [if_pos e, cc0, cc1, ht 0 (by omega), ht 1 (by omega)]
        simp [evl, ev1, v_X12_worked, nI]
    · dsimp only
      rw [e1, if_neg e2, e3, cc0, e4]
      rfl
  · rintro i _ hi (⟨h0, rfl, rfl⟩ | ⟨h0, st, μ', rfl, hs, hir, hwf, hev, hst, hfr⟩)
    · dsimp only
      unfold sd_X12_ruled_4 bd_X12_ruled_4
      have q : μ.1 49 19 ≤ 0 := by rw [h0]; decide
      rw [if_pos q]
      exact ⟨fun z => absurd q z, .inr ⟨_, rfl, .inl ⟨rfl, h0⟩⟩⟩
    · dsimp only
      rcases h with ⟨hl0, h1, hcode⟩ | ⟨h1, -⟩
      rotate_left
      · exact absurd h1 h0
      rw [h1] at h0
      have e1 : μ'.1 49 = μ.1 49 := hfr 49 (by omega)
      have e2 : μ'.1 57 = μ.1 57 := hfr 57 (by omega)
      have e3 : μ'.1 60 = μ.1 60 := hfr 60 (by omega)
      rcases Nat.lt_or_ge i r.length with q | q
      · rw [drop_cons q] at hwf hev
        have hcd := hcode i q
        generalize htt : r.getD i 0 = t at hwf hev hcd
        obtain ⟨hok, w1, w2, w3⟩ := hwf
        have n1 : ¬ (nI r.length ≤ nI i) := nI_ge q (by omega)
        have hb3 : t < 5000 := by rcases hok with q | ⟨q, q'⟩ | ⟨q, q'⟩ | q <;> omega
        have q3 : (nI t = 3000) ↔ t = 3000 := nI_eq (b := 3000) (by omega) (by omega)
        have q2 : (nI t < 2000) ↔ t < 2000 := nI_ltI (b := 2000) (by omega) (by omega)
        have q1 : (nI t < 1000) ↔ t < 1000 := nI_ltI (b := 1000) (by omega) (by omega)
        unfold sd_X12_ruled_4 bd_X12_ruled_4
        rw [e1, e2, e3, h1, nI_clamp (show i < 2 ^ 31 by omega), hcd, if_neg n1, nI_1]
        simp only [q1, q2, q3]
        rcases hok with ht1 | ⟨ht1, ht2⟩ | ⟨ht1, ht2⟩ | rfl
        · refine ⟨fun _ => ⟨vp_in_nI (by omega) (by omega), fun z => absurd z (by omega), fun _ => ⟨fun _ => ⟨fun z => absurd ht1 z, vp_in_nI (by omega) (by omega)⟩, fun z => absurd (show t < 2000 by omega) z⟩⟩, .inl ⟨_, rfl, by omega, .inr ⟨h0, nI t :: st, upI μ' 59 st.length (nI t), ?_, by simp; omega, by omega, w1 (by omega), ?_, ?_, ?_⟩⟩⟩
          · simp only [if_neg (show ¬ t = 3000 by omega), if_pos (show t < 2000 by omega), if_pos ht1, nI_1, nI_clamp (show st.length < 2 ^ 31 by omega), List.length_cons]
          · rw [← hev]; show evl th _ _ = evl th _ (ev1 th t st); unfold ev1; rw [if_pos ht1]
          · rw [rIk]; exact ⟨if_pos rfl, hst.up (Nat.le_refl _)⟩
          · intro k hk; rw [rIc hk]; exact hfr k hk
        · obtain ⟨u, rfl⟩ : ∃ u, t = 1000 + u := ⟨t - 1000, by omega⟩
          have hu : u < 7 := by omega
          have e9 : nI (1000 + u) - 1000 = nI u := by
            rw [show (1000 : Int32) = nI 1000 from rfl, ← nI_add, Int32.add_comm, Int32.add_sub_cancel]
          rw [e9]
          refine ⟨fun _ => ⟨vp_in_nI (by omega) (by omega), fun z => absurd z (by omega), fun _ => ⟨fun _ => ⟨fun z => vp_in_nI (by omega) (by omega), vp_in_nI (by omega) (by omega)⟩, fun z => absurd (show 1000 + u < 2000 by omega) z⟩⟩, .inl ⟨_, rfl, by omega, .inr ⟨h0, th u :: st, upI μ' 59 st.length (th u), ?_, by simp; omega, by omega, w1 (by omega), ?_, ?_, ?_⟩⟩⟩
          · simp only [if_neg (show ¬ 1000 + u = 3000 by omega), if_pos (show 1000 + u < 2000 by omega), if_neg (show ¬ 1000 + u < 1000 by omega), nI_1, nI_clamp (show st.length < 2 ^ 31 by omega), nI_clamp (show u < 2 ^ 31 by omega), List.length_cons, ht u hu]
          · rw [← hev]; show evl th _ _ = evl th _ (ev1 th (1000 + u) st); unfold ev1; rw [if_neg (by omega), if_pos (by omega), show 1000 + u - 1000 = u by omega]
          · rw [rIk]; exact ⟨if_pos rfl, hst.up (Nat.le_refl _)⟩
          · intro k hk; rw [rIc hk]; exact hfr k hk
        · obtain ⟨a, rfl⟩ : ∃ u, t = 2000 + u := ⟨t - 2000, by omega⟩
          have ha : a < 7 := by omega
          have e9 : nI (2000 + a) - 2000 = nI a := by
            rw [show (2000 : Int32) = nI 2000 from rfl, ← nI_add, Int32.add_comm, Int32.add_sub_cancel]
          rw [e9]
          obtain ⟨w4, w5⟩ := w3 (by omega) (by omega)
          match st, w4, w5, hst, hs, hev with
          | y :: x :: st', _, w5, hst, hs, hev =>
            have hs' : st'.length + 2 ≤ i := by simpa using hs
            have g2 : μ'.1 59 (st'.length + 1) = y := hst.1
            have g3 : μ'.1 59 st'.length = x := hst.2.1
            simp only [List.length_cons, nI_1, nI_m1, nI_pred, nI_clamp (show st'.length < 2 ^ 31 by omega), nI_clamp (show st'.length + 1 < 2 ^ 31 by omega), g2, g3, if_neg (show ¬ 2000 + a = 3000 by omega), if_neg (show ¬ 2000 + a < 2000 by omega)]
            refine ⟨fun _ => ⟨vp_in_nI (by omega) (by omega), fun z => absurd z (by omega), fun _ => ⟨fun z => absurd z (by omega), fun _ => ⟨vp_in_nI (by omega) (by omega), vp_in_nI (by omega) (by omega), work_p _ _ _, vp_in_nI (by omega) (by omega)⟩⟩⟩, .inl ⟨_, rfl, by omega, .inr ⟨h0, v_X12_worked (nI a) x y :: st', upI μ' 59 st'.length (v_X12_worked (nI a) x y), rfl, by simp; omega, by omega, ?_, ?_, ?_, ?_⟩⟩⟩
            · simpa using w5
            · rw [← hev]; show evl th _ _ = evl th _ (ev1 th (2000 + a) (y :: x :: st')); unfold ev1; rw [if_neg (by omega), if_neg (by omega), if_neg (by omega), show 2000 + a - 2000 = a by omega]
            · rw [rIk]; exact ⟨if_pos rfl, hst.2.2.up (Nat.le_refl _)⟩
            · intro k hk; rw [rIc hk]; exact hfr k hk
        · obtain ⟨w4, w5⟩ := w2 rfl
          match st, w4, w5, hst, hs, hev with
          | x :: st', _, w5, hst, hs, hev =>
            have hs' : st'.length + 1 ≤ i := by simpa using hs
            have g3 : μ'.1 59 st'.length = x := hst.1
            simp only [List.length_cons, if_true, nI_1, nI_pred, nI_clamp (show st'.length < 2 ^ 31 by omega), g3]
            refine ⟨fun _ => ⟨vp_in_nI (by omega) (by omega), fun _ => ⟨vp_in_nI (by omega) (by omega), vp_in_nI (by omega) (by omega)⟩, fun z => absurd trivial z⟩, .inl ⟨_, rfl, by omega, .inr ⟨h0, (-x) :: st', upI μ' 59 st'.length (-x), rfl, by simp; omega, by omega, ?_, ?_, ?_, ?_⟩⟩⟩
            · simpa using w5
            · rw [← hev]; rfl
            · rw [rIk]; exact ⟨if_pos rfl, hst.2.up (Nat.le_refl _)⟩
            · intro k hk; rw [rIc hk]; exact hfr k hk
      · have : i = r.length := by omega
        subst this
        have n1 : nI r.length ≤ nI r.length := nI_le (Nat.le_refl _) (by omega)
        unfold sd_X12_ruled_4 bd_X12_ruled_4
        rw [e1, h1, if_pos n1]
        rw [List.drop_length] at hwf hev
        refine ⟨fun z => absurd n1 z, .inr ⟨_, rfl, .inr ⟨e1, h0, ?_⟩⟩⟩
        match st, hwf, hst, hev with
        | [a], _, hst, hev => exact ⟨a, hev.symm, hst.1⟩
  · by_cases h0 : μ.1 49 19 = 0
    · exact .inl ⟨h0, rfl, rfl⟩
    · exact .inr ⟨h0, [], μ, rfl, Nat.le_refl _, Nat.zero_le _, hw, rfl, trivial, fun _ _ => rfl⟩

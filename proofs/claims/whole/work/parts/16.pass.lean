/-! how one walks; a minute; minutes -/
theorem bc_mkb (g : Nat → Bool) {n : Nat} (hn : n ≤ 7) : v_J6_bitCount_0f7a4 (mkb g n) = sm (fun i => if g i then 1 else 0) n := by
  have h : n = 0 ∨ n = 1 ∨ n = 2 ∨ n = 3 ∨ n = 4 ∨ n = 5 ∨ n = 6 ∨ n = 7 := by omega
  rcases h with rfl | rfl | rfl | rfl | rfl | rfl | rfl | rfl <;> simp only [mkb, sm] <;> generalize g 0 = b0 <;> generalize g 1 = b1 <;> generalize g 2 = b2 <;> generalize g 3 = b3 <;> generalize g 4 = b4 <;> generalize g 5 = b5 <;> generalize g 6 = b6 <;> revert b0 b1 b2 b3 b4 b5 b6 <;> decide +kernel
theorem sm_del {g : Nat → Bool} {k : Nat} (hg : g k = true) : ∀ {n : Nat}, (n ≤ k → sm (fun i => if i ≠ k ∧ g i = true then 1 else 0) n = sm (fun i => if g i then 1 else 0) n) ∧ (k < n → sm (fun i => if i ≠ k ∧ g i = true then 1 else 0) n + 1 = sm (fun i => if g i then 1 else 0) n)
  | 0 => ⟨fun _ => rfl, fun h => absurd h (by omega)⟩
  | n + 1 => by
    have ih := sm_del (g := g) (k := k) hg (n := n)
    simp only [sm]
    refine ⟨fun h => ?_, fun h => ?_⟩
    · rw [ih.1 (by omega)]
      have : n ≠ k := by omega
      simp [this]
    · by_cases e : n = k
      · subst e
        rw [ih.1 (Nat.le_refl _)]
        simp [hg]
      · rw [← ih.2 (by omega)]
        simp only [ne_eq, e, not_false_eq_true, true_and]
        rw [Int32.add_assoc, Int32.add_assoc, Int32.add_comm 1]
theorem oth_bc {F : FL} (hn : f_n F ≤ 7) {k : Nat} (hk : k < f_n F) (ho : bt (f_o F) k = false) : v_J6_bitCount_0f7a4 (staA F (f_p F k)) - 1 = othA F k := by
  unfold staA othA
  rw [bc_mkb _ hn, ← (sm_del (g := fun i => !bt (f_o F) i && decide (f_p F i = f_p F k)) (k := k) (by simp [ho])).2 hk, Int32.add_sub_cancel]
  refine sm_congr (fun i _ => ?_)
  by_cases e : i = k <;> cases bt (f_o F) i <;> by_cases hp : f_p F i = f_p F k <;> simp [e, hp]
def thg (F : FL) (m : Int32) (k : Nat) : Nat → Int32 := fun u => if u = 0 then f_h F k else if u = 1 then f_p F k else if u = 2 then ldF F k else if u = 3 then m else if u = 4 then othA F k else if u = 5 then nI k else f_t F - f_t F / 7 * 7
def wayA (r : List Nat) (F : FL) (m : Int32) (k : Nat) : Int32 := if bt (f_o F) k then 0 else if -9 ≤ (f_p F k + dirA ((evl (thg F m k) r []).headD 0)).toInt ∧ (f_p F k + dirA ((evl (thg F m k) r []).headD 0)).toInt ≤ 9 then dirA ((evl (thg F m k) r []).headD 0) else 0
theorem u7 {i : Nat} (h : i < 7) : i = 0 ∨ i = 1 ∨ i = 2 ∨ i = 3 ∨ i = 4 ∨ i = 5 ∨ i = 6 := by omega
theorem RuC.fr {b : Nat} {r : List Nat} {μ μ' : Mm} {S : List Nat} (h : RuC b r μ) (f : Fr S μ μ') (hb : b ∉ S ∧ b + 1 ∉ S) : RuC b r μ' := by
  unfold RuC
  rw [f.1 b hb.1, f.1 _ hb.2]
  exact h
theorem RuM.fs {r : List Nat} {μ μ' : Mm} {S : List Nat} (h : RuM r μ) (f : Fs S μ μ') (hb : 49 ∉ S ∧ 57 ∉ S ∧ 1019 ∉ S) : RuM r μ' := by
  unfold RuM
  have e1 : μ'.1 49 19 = μ.1 49 19 := f.1 49 19 hb.1 (.inr hb.2.2)
  have e2 : ∀ j, μ'.1 57 j = μ.1 57 j := fun j => f.1 57 j hb.2.1 (.inl (by decide))
  simp only [e1, e2]
  exact h
theorem abs9 {x : Int32} (h : -1000 ≤ x.toInt) (h2 : x.toInt ≤ 1000) : ((if 0 ≤ x then x else 0 - x) ≤ 9) ↔ (-9 ≤ x.toInt ∧ x.toInt ≤ 9) := by
  by_cases q : 0 ≤ x
  · rw [if_pos q]
    rw [fa_le, t0] at q
    rw [fa_le, t9]
    omega
  · rw [if_neg q]
    rw [fa_le, t0] at q
    rw [fa_le, t9, toInt_subS (by rw [t0]; omega), t0]
    omega
theorem plw {F : FL} (hg : RgF F) {k : Nat} (hk : k < f_n F) (x : Int32) : -10 ≤ (f_p F k + dirA x).toInt ∧ (f_p F k + dirA x).toInt ≤ 10 := by
  have h := (hg.2.1 k (by have := hg.1; omega)).2.2.1
  have d := dirA_t x
  rw [toInt_addS (by omega)]
  omega
section WY
variable {b c q : Nat} {F : FL} {r : List Nat} {μ : Mm}
theorem C_wayOf (h : FlC b F μ) (hr : RuC c r μ) (hg : RgF F) (hb : b = 1 ∨ b = 8) (hc : c = 15 ∨ c = 20) {k : Nat} (hk : k < f_n F) (m : Int32) : p_X1_wayOf b (nI k) c m μ ∧ v_X1_wayOf b (nI k) c m μ = wayA r F m k := by
  have hn := h.1
  unfold p_X1_wayOf v_X1_wayOf wayA
  rw [h.sz, h.o, if_neg (nI_pos (by omega)), if_neg (nI_ge hk (by omega)), bt_ask _ (by omega)]
  cases ho : bt (f_o F) k
  rotate_left
  · simp
  · simp only [Bool.false_eq_true, if_false, if_true]
    simp (disch := omega) only [rIc, nI_clamp, cc0, cc1, cc2, cc3, cc4, cc5, cc6, forall_eq, h.h, h.p, h.w, h.k, h.t]
    have hst : ∀ v0 v1 v2 v3, FlC b F (upI (upI (upI (upI μ (b + 6) 0 v0) (b + 6) 1 v1) (b + 6) 2 v2) (b + 6) 3 v3) := fun _ _ _ _ => (((h.up (by omega)).up (by omega)).up (by omega)).up (by omega)
    rw [(C_standingOn (hst _ _ _ _) _).2, oth_bc hn hk ho]
    obtain ⟨μ8, e8⟩ : ∃ μ8, μ8 = (upI (upI (upI (upI (upI (upI (upI μ (b + 6) 0 (f_h F k)) (b + 6) 1 (f_p F k)) (b + 6) 2 (f_w F k + f_k F k)) (b + 6) 3 m) (b + 6) 4 (if μ.1 c 2 = 0 then 0 else othA F k)) (b + 6) 5 (nI k)) (b + 6) 6 (f_t F - f_t F / 7 * 7)) := ⟨_, rfl⟩
    have f8 : Fr [b + 6] μ μ8 := by
      rw [e8]
      exact ((((((Fr.rfl.up (by simp)).up (by simp)).up (by simp)).up (by simp)).up (by simp)).up (by simp)).up (by simp)
    have g8 : ∀ i, i < 7 → μ8.1 (b + 6) i = (fun u => if u = 4 then (if μ.1 c 2 = 0 then 0 else othA F k) else thg F m k u) i := by
      intro i hi
      rw [e8]
      rcases u7 hi with rfl | rfl | rfl | rfl | rfl | rfl | rfl <;> simp [rI, thg, ldF]
    rw [← e8]
    have hr8 : RuC c r μ8 := hr.fr f8 (by simp; omega)
    obtain ⟨pv, vv⟩ := C_value hr8 g8 (by omega)
    have hcr : evl (fun u => if u = 4 then (if μ.1 c 2 = 0 then 0 else othA F k) else thg F m k u) r [] = evl (thg F m k) r [] := by
      refine evl_congr (wfd_ok hr.2.1) (fun u hu hm => ?_)
      by_cases e : u = 4
      · subst e
        have : μ.1 c 2 = 1 := by rw [hr.2.2.2.2, if_pos hm]
        rw [if_pos rfl, this, if_neg (by decide)]
        rfl
      · rw [if_neg e]
    rw [hcr] at vv
    have hfv := fr_X5_value c (b + 6) μ8
    have e9 : (e_X5_value c (b + 6) μ8).1 (b + 3) k = f_p F k := by
      rw [hfv.1 (b + 3) (by simp; omega), f8.1 (b + 3) (by simp), h.p (by omega)]
    have hrg := plw hg hk ((evl (thg F m k) r []).headD 0)
    refine ⟨fun _ _ _ => ⟨vp_in_nI (by omega) (by omega), vp_in_nI (by omega) (by omega), vp_in_nI (by omega) (by omega), vp_in_nI (by omega) (by omega), fun _ => ⟨vp_in_nI (by omega) (by omega), (C_standingOn (hst _ _ _ _) _).1⟩, pv, vp_in_nI (by omega) (by omega)⟩, ?_⟩
    rw [e9, vv, dir_C]
    have ha := abs9 (x := f_p F k + dirA ((evl (thg F m k) r []).headD 0)) (by omega) (by omega)
    simp only [ha]
theorem M_walksTo (h : FlM q F μ) (hl : r.length ≤ 40) (hw : wfd r 0) (hr : RuM r μ) (hg : RgF F) (hq : q = 52 ∨ q = 53) {k : Nat} (hk : k < f_n F) (m : Int32) : p_X12_walksTo q (nI k) m μ ∧ v_X12_walksTo q (nI k) m μ = wayA r F m k := by
  have hn := h.1
  unfold p_X12_walksTo v_X12_walksTo wayA
  rw [cl21, h.o, has_b _ (by omega)]
  cases ho : bt (f_o F) k
  rotate_left
  · simp
  · simp only [Bool.false_eq_true, if_false, if_true]
    simp (disch := omega) only [rIc, nI_clamp, cc0, cc1, cc2, cc3, cc4, cc5, cc6, cl7, cl22, forall_eq, h.h, h.p, h.t]
    have hs2 : ∀ v0 v1, FlM q F (upI (upI μ 60 0 v0) 60 1 v1) := fun _ _ => (h.up (by omega)).up (by omega)
    have hs4 : ∀ v0 v1 v2 v3, FlM q F (upI (upI (upI (upI μ 60 0 v0) 60 1 v1) 60 2 v2) 60 3 v3) := fun _ _ _ _ => (((h.up (by omega)).up (by omega)).up (by omega)).up (by omega)
    rw [(M_load (hs2 _ _) hk).2, (M_othersOn (hs4 _ _ _ _) hk).2]
    obtain ⟨μ8, e8⟩ : ∃ μ8, μ8 = (upI (upI (upI (upI (upI (upI (upI μ 60 0 (f_h F k)) 60 1 (f_p F k)) 60 2 (ldF F k)) 60 3 m) 60 4 (othA F k)) 60 5 (nI k)) 60 6 (f_t F - f_t F / 7 * 7)) := ⟨_, rfl⟩
    have f8 : Fr [60] μ μ8 := by
      rw [e8]
      exact ((((((Fr.rfl.up (by simp)).up (by simp)).up (by simp)).up (by simp)).up (by simp)).up (by simp)).up (by simp)
    have g8 : ∀ i, i < 7 → μ8.1 60 i = thg F m k i := by
      intro i hi
      rw [e8]
      rcases u7 hi with rfl | rfl | rfl | rfl | rfl | rfl | rfl <;> simp [rI, thg, ldF]
    rw [← e8]
    have hr8 : RuM r μ8 := hr.fs f8.s (by simp)
    obtain ⟨pv, vv⟩ := M_ruled hl hw hr8 g8
    have hfv := fs_X12_ruled μ8
    have e9 : (e_X12_ruled μ8).1 q (7 + k) = f_p F k := by
      rw [hfv.1 q _ (by simp; omega) (.inl (by omega)), f8.1 q (by simp; omega), h.p (by omega)]
    refine ⟨fun _ => ⟨vp_in_nI (by omega) (by omega), in7 (by omega), (M_load h hk).1, (M_othersOn (hs4 _ _ _ _) hk).1, pv, in7 (by omega)⟩, ?_⟩
    rw [e9, vv, dir_M, in_T, Int32.toInt_toInt64, show (-9 : Int64).toInt = -9 by decide +kernel, show (9 : Int64).toInt = 9 by decide +kernel]
    simp only [one0]
    by_cases z : -9 ≤ (f_p F k + dirA ((evl (thg F m k) r []).headD 0)).toInt ∧ (f_p F k + dirA ((evl (thg F m k) r []).headD 0)).toInt ≤ 9
    · rw [if_pos z, if_neg (fun y => y z)]
    · rw [if_neg z, if_pos z]
end WY
/-! a minute -/
def pasA (r : List Nat) (F : FL) : FL := (f_n F, f_w F, f_h F, (fun i => if i < f_n F then f_p F i + wayA r F (momA F) i else f_p F i), f_k F, f_o F, f_t F + 1, f_z F)
def wlkA (r : List Nat) (F : FL) : Int32 := sm (fun i => if wayA r F (momA F) i = 0 then 0 else 1) (f_n F)
theorem wayA_rg {r : List Nat} {F : FL} (hg : RgF F) {m : Int32} {k : Nat} (hk : k < f_n F) : -9 ≤ (f_p F k + wayA r F m k).toInt ∧ (f_p F k + wayA r F m k).toInt ≤ 9 := by
  have h := (hg.2.1 k (by have := hg.1; omega)).2.2.1
  unfold wayA
  cases bt (f_o F) k
  · simp only [Bool.false_eq_true, if_false]
    by_cases z : -9 ≤ (f_p F k + dirA ((evl (thg F m k) r []).headD 0)).toInt ∧ (f_p F k + dirA ((evl (thg F m k) r []).headD 0)).toInt ≤ 9
    · rw [if_pos z]; exact z
    · rw [if_neg z, Int32.add_zero]; exact h
  · simp only [if_true, Int32.add_zero]; exact h
theorem RgF_pas {r : List Nat} {F : FL} (hg : RgF F) : RgF (pasA r F) := by
  obtain ⟨h1, h2, h3, h4, h5⟩ := hg
  refine ⟨h1, fun i hi => ⟨(h2 i hi).1, (h2 i hi).2.1, ?_, (h2 i hi).2.2.2⟩, h3, h4, fun i hi hi7 => ⟨(h5 i hi hi7).1, (h5 i hi hi7).2.1, ?_, (h5 i hi hi7).2.2.2⟩⟩
  · show -9 ≤ (if i < f_n F then f_p F i + wayA r F (momA F) i else f_p F i).toInt ∧ (if i < f_n F then f_p F i + wayA r F (momA F) i else f_p F i).toInt ≤ 9
    by_cases z : i < f_n F
    · rw [if_pos z]; exact wayA_rg ⟨h1, h2, h3, h4, h5⟩ z
    · rw [if_neg z]; exact (h2 i hi).2.2.1
  · show (if i < f_n F then f_p F i + wayA r F (momA F) i else f_p F i) = 0
    have hi' : f_n F ≤ i := hi
    rw [if_neg (by omega)]
    exact (h5 i hi hi7).2.2.1
section PS
variable {b c q : Nat} {F : FL} {r : List Nat} {μ : Mm}
theorem C_pass (h : FlC b F μ) (hr : RuC c r μ) (hg : RgF F) (hb : b = 1 ∨ b = 8) (hc : c = 15 ∨ c = 20) : p_X1_pass b c μ ∧ v_X1_pass b c μ = wlkA r F ∧ FlC b (pasA r F) (e_X1_pass b c μ) := by
  have hn := h.1
  have k1 := lpI (f := fun s : Int32 × Int32 × Mm => bd_X1_pass_7 b c s.1 s.2.1 s.2.2) (sd := fun s : Int32 × Int32 × Mm => sd_X1_pass_7 b c s.1 s.2.1 s.2.2) (dd := fun s : Int32 × Int32 × Mm => s.2.2)
    (I := fun i s => ∃ μ', s = (momA F, nI i, μ') ∧ i ≤ f_n F ∧ Fr [b + 5, b + 6, c + 2] μ μ' ∧ ∀ j, j < i → μ'.1 (b + 5) j = wayA r F (momA F) j)
    (R := fun z => Fr [b + 5, b + 6, c + 2] μ z ∧ ∀ j, j < f_n F → z.1 (b + 5) j = wayA r F (momA F) j) (f_n F) (by omega) ?_ (s0 := (momA F, 0, μ)) ⟨μ, rfl, Nat.zero_le _, Fr.rfl, fun j hj => absurd hj (by omega)⟩
  · obtain ⟨kp, kf, kw⟩ := k1
    unfold p_X1_pass v_X1_pass e_X1_pass
    rw [(C_moment h).2]
    generalize whl _ _ FU (momA F, (0 : Int32), μ) = z at kf kw ⊢
    dsimp only
    have hz : FlC b F z := h.fr kf (by simp; omega)
    have k2 := lpI (f := fun s : Int32 × Int32 × Mm => bd_X1_pass_39 b c s.1 s.2.1 s.2.2) (sd := fun s : Int32 × Int32 × Mm => sd_X1_pass_39 b c s.1 s.2.1 s.2.2) (dd := fun s : Int32 × Int32 × Mm => (0, s.2.2))
      (I := fun i s => ∃ μ', s = (sm (fun i => if wayA r F (momA F) i = 0 then 0 else 1) i, nI i, μ') ∧ i ≤ f_n F ∧ Fr [b + 3] z μ' ∧ ∀ j, j < 7 → μ'.1 (b + 3) j = if j < i then f_p F j + wayA r F (momA F) j else f_p F j)
      (R := fun y => y.1 = wlkA r F ∧ Fr [b + 3] z y.2 ∧ ∀ j, j < 7 → y.2.1 (b + 3) j = if j < f_n F then f_p F j + wayA r F (momA F) j else f_p F j) (f_n F) (by omega) ?_ (s0 := (0, 0, z)) ⟨z, rfl, Nat.zero_le _, Fr.rfl, fun j hj => by rw [if_neg (by omega), hz.p hj]⟩
    · obtain ⟨kp2, kv, kf2, kw2⟩ := k2
      refine ⟨⟨(C_moment h).1, kp, fun _ e => e ▸ kp2⟩, ?_⟩
      generalize whl _ _ FU ((0 : Int32), (0 : Int32), z) = y at kv kf2 kw2 ⊢
      refine ⟨kv, ?_⟩
      have hz5 := kf2.1 b (by simp)
      have hz1 := kf2.1 (b + 1) (by simp)
      have hz2 := kf2.1 (b + 2) (by simp)
      have hz4 := kf2.1 (b + 4) (by simp)
      refine ⟨hn, ?_, fun i hi => ?_, fun i hi => ?_, fun i hi => ?_, fun i hi => ?_, ?_, ?_, ?_⟩
      · rw [rI, if_neg (by omega), hz5]; exact hz.sz
      · rw [rIc (by omega), hz1]; exact hz.w hi
      · rw [rIc (by omega), hz2]; exact hz.h hi
      · rw [rIc (by omega)]; exact kw2 i hi
      · rw [rIc (by omega), hz4]; exact hz.k hi
      · rw [rI, if_neg (by omega), hz5]; exact hz.o
      · rw [rI, if_pos ⟨rfl, rfl⟩, hz5, hz.t]; rfl
      · rw [rI, if_neg (by omega), hz5]; exact hz.z
    · rintro i _ hi ⟨μ', rfl, hi2, hf, hp⟩
      dsimp only
      have hs : μ'.1 b 0 = nI (f_n F) := by rw [hf.1 b (by simp)]; exact hz.sz
      have hwy : ∀ j, j < f_n F → μ'.1 (b + 5) j = wayA r F (momA F) j := fun j hj => by rw [hf.1 (b + 5) (by simp)]; exact kw j hj
      unfold sd_X1_pass_39 bd_X1_pass_39
      dsimp only
      rcases Nat.lt_or_ge i (f_n F) with z9 | z9
      · rw [hs, if_neg (nI_ge z9 (by omega)), nI_clamp (by omega), rIc (show b + 5 ≠ b + 3 by omega), hwy i z9, hp i (by omega), if_neg (by omega), nI_1]
        refine ⟨fun _ => ⟨vp_in_nI (by omega) (by omega), vp_in_nI (by omega) (by omega), vp_in_nI (by omega) (by omega), fun _ _ => vp_in_nI (by omega) (by omega)⟩, .inl ⟨_, rfl, z9, _, rfl, by omega, hf.up (by simp), fun j hj => ?_⟩⟩
        rw [rI]
        by_cases e : j = i
        · subst e; rw [if_pos ⟨rfl, rfl⟩, if_pos (by omega)]
        · rw [if_neg (by omega), hp j hj]
          by_cases e2 : j < i
          · rw [if_pos e2, if_pos (by omega)]
          · rw [if_neg e2, if_neg (by omega)]
      · have e : i = f_n F := by omega
        subst e
        rw [hs, if_pos (nI_le (Nat.le_refl _) (by omega))]
        exact ⟨fun y => absurd (nI_le (Nat.le_refl _) (by omega)) y, .inr ⟨_, rfl, rfl, hf, hp⟩⟩
  · rintro i _ hi ⟨μ', rfl, hi2, hf, hw⟩
    dsimp only
    have h' : FlC b F μ' := h.fr hf (by simp; omega)
    have hr' : RuC c r μ' := hr.fr hf (by simp; omega)
    unfold sd_X1_pass_7 bd_X1_pass_7
    rcases Nat.lt_or_ge i (f_n F) with z9 | z9
    · obtain ⟨pw, vw⟩ := C_wayOf h' hr' hg hb hc z9 (momA F)
      rw [h'.sz, if_neg (nI_ge z9 (by omega)), nI_clamp (by omega), vw, nI_1]
      have fw := fr_X1_wayOf b (nI i) c (momA F) μ'
      refine ⟨fun _ => ⟨pw, fun _ _ => vp_in_nI (by omega) (by omega)⟩, .inl ⟨_, rfl, z9, _, rfl, by omega, (hf.call fw (by simp)).up (by simp), fun j hj => ?_⟩⟩
      rw [rI]
      by_cases e : j = i
      · subst e; rw [if_pos ⟨rfl, rfl⟩]
      · rw [if_neg (by omega), fw.1 (b + 5) (by simp; omega)]
        exact hw j (by omega)
    · have e : i = f_n F := by omega
      subst e
      rw [h'.sz, if_pos (nI_le (Nat.le_refl _) (by omega))]
      exact ⟨fun y => absurd (nI_le (Nat.le_refl _) (by omega)) y, .inr ⟨_, rfl, hf, hw⟩⟩
theorem M_minuteGoes (h : FlM q F μ) (hl : r.length ≤ 40) (hw : wfd r 0) (hr : RuM r μ) (hg : RgF F) (hq : q = 52 ∨ q = 53) : p_X12_minuteGoes q μ ∧ v_X12_minuteGoes q μ = wlkA r F ∧ FlM q (pasA r F) (e_X12_minuteGoes q μ) := by
  have hn := h.1
  have k1 := lpI (f := fun s : Int32 × Int32 × Int32 × Mm => bd_X12_minuteGoes_11 q s.1 s.2.1 s.2.2.1 s.2.2.2) (sd := fun s : Int32 × Int32 × Int32 × Mm => sd_X12_minuteGoes_11 q s.1 s.2.1 s.2.2.1 s.2.2.2) (dd := fun s : Int32 × Int32 × Int32 × Mm => (0, s.2.2.2))
    (I := fun i s => ∃ μ', s = (momA F, sm (fun i => if wayA r F (momA F) i = 0 then 0 else 1) i, nI i, μ') ∧ i ≤ f_n F ∧ Fr [59, 60, 62] μ μ' ∧ ∀ j, j < i → μ'.1 62 j = wayA r F (momA F) j)
    (R := fun z => z.1 = wlkA r F ∧ Fr [59, 60, 62] μ z.2 ∧ ∀ j, j < f_n F → z.2.1 62 j = wayA r F (momA F) j) (f_n F) (by omega) ?_ (s0 := (momA F, 0, 0, μ)) ⟨μ, rfl, Nat.zero_le _, Fr.rfl, fun j hj => absurd hj (by omega)⟩
  · obtain ⟨kp, ke, kf, kw⟩ := k1
    unfold p_X12_minuteGoes v_X12_minuteGoes e_X12_minuteGoes
    rw [(M_moment h).2]
    generalize whl _ _ FU (momA F, (0 : Int32), (0 : Int32), μ) = z at ke kf kw ⊢
    dsimp only
    have hz : FlM q F z.2 := h.fs kf.s (by simp; omega)
    have k2 := lpI (f := fun s : Int32 × Int32 × Mm => bd_X12_minuteGoes_65 q s.1 s.2.1 s.2.2) (sd := fun s : Int32 × Int32 × Mm => sd_X12_minuteGoes_65 q s.1 s.2.1 s.2.2) (dd := fun s : Int32 × Int32 × Mm => (0, s.2.2))
      (I := fun i s => ∃ μ', s = (wlkA r F, nI i, μ') ∧ i ≤ f_n F ∧ Fr [q] z.2 μ' ∧ (∀ j, j < 7 → μ'.1 q (7 + j) = if j < i then f_p F j + wayA r F (momA F) j else f_p F j) ∧ ∀ j, j < 7 ∨ 14 ≤ j → μ'.1 q j = z.2.1 q j)
      (R := fun y => y.1 = wlkA r F ∧ Fr [q] z.2 y.2 ∧ (∀ j, j < 7 → y.2.1 q (7 + j) = if j < f_n F then f_p F j + wayA r F (momA F) j else f_p F j) ∧ ∀ j, j < 7 ∨ 14 ≤ j → y.2.1 q j = z.2.1 q j) (f_n F) (by omega) ?_ (s0 := (z.1, 0, z.2)) ⟨z.2, by rw [ke]; rfl, Nat.zero_le _, Fr.rfl, fun j hj => by rw [if_neg (by omega), hz.p hj], fun _ _ => rfl⟩
    · obtain ⟨kp2, kv, kf2, kw2, ks2⟩ := k2
      refine ⟨⟨(M_moment h).1, kp, fun _ e => by rw [e]; exact kp2⟩, ?_⟩
      generalize whl _ _ FU (z.1, (0 : Int32), z.2) = y at kv kf2 kw2 ks2 ⊢
      refine ⟨kv, ?_⟩
      rw [cl22]
      have z49 := kf2.1 49 (by simp; omega)
      have z51 := kf2.1 51 (by simp; omega)
      refine ⟨hn, ?_, fun i hi => ?_, fun i hi => ?_, fun i hi => ?_, fun i hi => ?_, ?_, ?_, ?_⟩
      · rw [rIc (by omega), z49]; exact hz.sz
      · rw [rIc (by omega), z51]; exact hz.w hi
      · rw [rI, if_neg (by omega), ks2 i (by omega)]; exact hz.h hi
      · rw [rI, if_neg (by omega)]; exact kw2 i hi
      · rw [rI, if_neg (by omega), ks2 _ (by omega)]; exact hz.k hi
      · rw [rI, if_neg (by omega), ks2 _ (by omega)]; exact hz.o
      · rw [rI, if_pos ⟨rfl, rfl⟩, ks2 _ (by omega), hz.t]; rfl
      · rw [rI, if_neg (by omega), ks2 _ (by omega)]; exact hz.z
    · rintro i _ hi ⟨μ', rfl, hi2, hf, hp, hsame⟩
      dsimp only
      have hs : μ'.1 49 3 = nI (f_n F) := by rw [hf.1 49 (by simp; omega)]; exact hz.sz
      have hwy : ∀ j, j < f_n F → μ'.1 62 j = wayA r F (momA F) j := fun j hj => by rw [hf.1 62 (by simp; omega)]; exact kw j hj
      unfold sd_X12_minuteGoes_65 bd_X12_minuteGoes_65
      rcases Nat.lt_or_ge i (f_n F) with z9 | z9
      · rw [hs, if_neg (nI_ge z9 (by omega)), nI_clamp (by omega), cl7 (by omega), hwy i z9, hp i (by omega), if_neg (by omega), nI_1]
        refine ⟨fun _ => ⟨in7 (by omega), vp_in_nI (by omega) (by omega), in7 (by omega)⟩, .inl ⟨_, rfl, z9, _, rfl, by omega, hf.up (by simp), fun j hj => ?_, fun j hj => ?_⟩⟩
        · rw [rI]
          by_cases e : j = i
          · subst e; rw [if_pos ⟨rfl, rfl⟩, if_pos (by omega)]
          · rw [if_neg (by omega), hp j hj]
            by_cases e2 : j < i
            · rw [if_pos e2, if_pos (by omega)]
            · rw [if_neg e2, if_neg (by omega)]
        · rw [rI, if_neg (by omega)]
          exact hsame j hj
      · have e : i = f_n F := by omega
        subst e
        rw [hs, if_pos (nI_le (Nat.le_refl _) (by omega))]
        exact ⟨fun y => absurd (nI_le (Nat.le_refl _) (by omega)) y, .inr ⟨_, rfl, rfl, hf, hp, hsame⟩⟩
  · rintro i _ hi ⟨μ', rfl, hi2, hf, hwy⟩
    dsimp only
    have h' : FlM q F μ' := h.fs hf.s (by simp; omega)
    have hr' : RuM r μ' := hr.fs hf.s (by simp)
    unfold sd_X12_minuteGoes_11 bd_X12_minuteGoes_11
    rcases Nat.lt_or_ge i (f_n F) with z9 | z9
    · obtain ⟨pw, vw⟩ := M_walksTo h' hl hw hr' hg hq z9 (momA F)
      rw [h'.sz, if_neg (nI_ge z9 (by omega)), nI_clamp (by omega), vw, nI_1]
      have fw := fr_X12_walksTo q (nI i) (momA F) μ'
      refine ⟨fun _ => ⟨pw, fun _ _ => ⟨vp_in_nI (by omega) (by omega), fun _ _ => vp_in_nI (by omega) (by omega)⟩⟩, .inl ⟨_, rfl, z9, upI (e_X12_walksTo q (nI i) (momA F) μ') 62 i (wayA r F (momA F) i), ?_, by omega, (hf.call fw (by simp)).up (by simp), fun j hj => ?_⟩⟩
      · have e2 : (upI (e_X12_walksTo q (nI i) (momA F) μ') 62 i (wayA r F (momA F) i)).1 62 i = wayA r F (momA F) i := by rw [rI, if_pos ⟨rfl, rfl⟩]
        rw [e2]
        simp only [sm]
        unfold v_X12_flag
        by_cases e : wayA r F (momA F) i = 0 <;> simp [e]
      · rw [rI]
        by_cases e : j = i
        · subst e; rw [if_pos ⟨rfl, rfl⟩]
        · rw [if_neg (by omega), fw.1 62 (by simp)]
          exact hwy j (by omega)
    · have e : i = f_n F := by omega
      subst e
      rw [h'.sz, if_pos (nI_le (Nat.le_refl _) (by omega))]
      exact ⟨fun y => absurd (nI_le (Nat.le_refl _) (by omega)) y, .inr ⟨_, rfl, rfl, hf, hwy⟩⟩
end PS

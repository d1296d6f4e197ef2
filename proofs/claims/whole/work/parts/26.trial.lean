/-! later, decides, bears, tips -/
section TS
variable {σ : ST} {F : FL} {R : List Int64} {μ : Mm}
def laV (σ : ST) (k n : Int32) : Int32 := if hasF (s_F σ) k then if inB n 0 60 then 100 + f_p (goA (s_r σ) n.toNatClampNeg (s_F σ)) k.toNatClampNeg else -1 else -1
def laT (σ : ST) (k n : Int32) (R : List Int64) : List Int64 := if hasF (s_F σ) k then if inB n 0 60 then [(2000 + momA (goA (s_r σ) n.toNatClampNeg (s_F σ))).toInt64] else R else R
theorem C_later (ok : OK σ) (hc : CS σ μ) (tc : ToC R μ) (k n : Int32) : p_X11_later k n μ ∧ v_X11_later k n μ = laV σ k n ∧ ToC (laT σ k n R) (e_X11_later k n μ) := by
  unfold p_X11_later v_X11_later e_X11_later laV laT
  rw [ite_in t0 t60, ite_in t0 t60, C_has hc.F]
  simp only [one0]
  cases hk : hasF (s_F σ) k
  · simp only [Bool.false_eq_true, not_false_eq_true, if_true, if_false]
    exact ⟨fun z => absurd trivial z, trivial, tc⟩
  · obtain ⟨kc, ke⟩ := hasF_cl ok.g.1 hk
    have hn := ok.g.1
    obtain ⟨p1, h1⟩ := CTR_become ok hc tc
    simp only [not_true_eq_false, if_true, if_false, forall_eq]
    generalize e_X1_become 8 1 μ = μ2 at h1 ⊢
    obtain ⟨p2, -, h2⟩ := CTR_go h1 n
    generalize e_X1_go 8 n 15 μ2 = μ3 at h2 ⊢
    have h3 := CTR_begin h2
    generalize e_X10_begin μ3 = μ4 at h3 ⊢
    obtain ⟨p4, v4⟩ := CTR_mom h3
    rw [v4]
    obtain ⟨p5, h5⟩ := CTR_add h3 (by simp) (2000 + momA (goA (s_r σ) n.toNatClampNeg (s_F σ))).toInt64
    generalize e_X10_add (2000 + momA (goA (s_r σ) n.toNatClampNeg (s_F σ))).toInt64 μ4 = μ5 at h5 ⊢
    refine ⟨fun _ _ _ => ⟨p1, p2, p4, p5, by rw [ke]; exact vp_in_nI (by omega) (by omega)⟩, ?_, ?_⟩
    · cases inB n 0 60
      · rfl
      · simp only [if_true]
        rw [show μ5.1 11 k.toNatClampNeg = f_p (goA (s_r σ) n.toNatClampNeg (s_F σ)) k.toNatClampNeg from h5.2.2.2.1.p (by omega)]
    · cases inB n 0 60
      · exact tc
      · exact h5.2.2.2.2
theorem M_later (ok : OK σ) (hm : MS σ μ) (tm : ToM R μ) (k n : Int32) : p_X12_later k n μ ∧ v_X12_later k n μ = laV σ k n ∧ ToM (laT σ k n R) (e_X12_later k n μ) := by
  have hm0 := hm.th 0
  have tm0 := tm.th 0
  unfold p_X12_later v_X12_later e_X12_later laV laT
  simp only [forall_eq]
  generalize upI μ 49 0 0 = μ1 at hm0 tm0 ⊢
  rw [in_B s0 s60, M_isOne hm0.F]
  simp only [one0]
  cases hk : hasF (s_F σ) k
  · simp only [Bool.false_eq_true, not_false_eq_true, if_true, if_false]
    exact ⟨fun z => absurd trivial z, trivial, tm0⟩
  · obtain ⟨kc, ke⟩ := hasF_cl ok.g.1 hk
    have hn := ok.g.1
    obtain ⟨p1, h1⟩ := MTR_copies ok hm0 tm0
    simp only [not_true_eq_false, if_true, if_false]
    generalize e_X12_copies μ1 = μ2 at h1 ⊢
    obtain ⟨p2, -, h2⟩ := MTR_go h1 n
    generalize e_X12_goesOn 53 n μ2 = μ3 at h2 ⊢
    have h3 := MTR_begin h2
    generalize upI μ3 49 1 0 = μ4 at h3 ⊢
    obtain ⟨p4, v4⟩ := MTR_mom h3
    rw [v4]
    obtain ⟨p5, h5⟩ := MTR_add h3 (by simp) (2000 + momA (goA (s_r σ) n.toNatClampNeg (s_F σ))).toInt64
    generalize e_X12_enters (2000 + momA (goA (s_r σ) n.toNatClampNeg (s_F σ))).toInt64 μ4 = μ5 at h5 ⊢
    have h7 : (7 + k).toNatClampNeg = 7 + k.toNatClampNeg := by
      generalize k.toNatClampNeg = i at kc ke
      subst ke
      exact cl7 (by omega)
    refine ⟨fun _ _ => ⟨p1, p2, p4, p5, by rw [ke]; exact in7 (by omega)⟩, ?_, ?_⟩
    · cases inB n 0 60
      · rfl
      · simp only [if_true, not_true_eq_false, if_false]
        rw [h7, h5.2.2.2.1.p (by omega)]
    · cases inB n 0 60
      · exact tm0
      · exact h5.2.2.2.2
theorem call_later (h : Sim σ R μ) (k n : Int32) : Call (p_X11_later k n μ) (p_X12_later k n (e_X11_later k n μ)) (v_X11_later k n μ) (v_X12_later k n (e_X11_later k n μ)) (e_X12_later k n (e_X11_later k n μ)) := by
  have fC := fr_X11_later k n μ
  have m := h.m1 fC (by decide)
  exact Two h fC (fs_X12_later k n _) (C_later h.1 h.2.1 h.2.2.2.1 k n) (M_later h.1 m.1 m.2 k n) (by decide) (by decide)
/-! the places of the trial floor -/
def plc (F : FL) (i : Nat) : Int64 := (100 + f_p F i).toInt64
theorem C_tells (h : CTR σ F R μ) (hl : R.length ≤ 9) : p_X11_tellPlacesOfTrial μ ∧ CTR σ F (R ++ rows (plc F) (f_n F)) (e_X11_tellPlacesOfTrial μ) := by
  have hn := h.2.1.1
  have key := lpI (f := fun s : Int32 × Mm => bd_X11_tellPlacesOfTrial_2 s.1 s.2) (sd := fun s : Int32 × Mm => sd_X11_tellPlacesOfTrial_2 s.1 s.2) (dd := fun s : Int32 × Mm => s.2)
    (I := fun i s => ∃ μ', s = (nI i, μ') ∧ i ≤ f_n F ∧ CTR σ F (R ++ rows (plc F) i) μ')
    (R := fun z => CTR σ F (R ++ rows (plc F) (f_n F)) z) (f_n F) (by omega) ?_ (s0 := (0, μ)) ⟨μ, rfl, Nat.zero_le _, by simp only [rows, List.append_nil]; exact h⟩
  · exact key
  · rintro i _ hi ⟨μ', rfl, hi2, ht⟩
    dsimp only
    unfold sd_X11_tellPlacesOfTrial_2 bd_X11_tellPlacesOfTrial_2
    rw [ht.2.2.2.1.sz, nI_1]
    simp only [nI_leI (show f_n F < 2 ^ 31 by omega) (show i < 2 ^ 31 by omega), nI_clamp (show i < 2 ^ 31 by omega)]
    rcases Nat.lt_or_ge i (f_n F) with z | z
    · rw [if_neg (by omega), show μ'.1 11 i = f_p F i from ht.2.2.2.1.p (by omega)]
      obtain ⟨q1, q2⟩ := CTR_add ht (by rw [List.length_append, rows_len]; omega) (100 + f_p F i).toInt64
      refine ⟨fun _ => ⟨vp_in_nI (by omega) (by omega), q1⟩, .inl ⟨_, rfl, z, _, rfl, by omega, ?_⟩⟩
      show CTR σ F (R ++ (rows (plc F) i ++ [plc F i])) _
      rw [← List.append_assoc]; exact q2
    · have : i = f_n F := by omega
      subst this
      rw [if_pos (Nat.le_refl _)]
      exact ⟨fun y => absurd (Nat.le_refl _) y, .inr ⟨_, rfl, ht⟩⟩
theorem M_tells (h : MTR σ F R μ) (hl : R.length ≤ 9) : p_X12_entersPlaces μ ∧ MTR σ F (R ++ rows (plc F) (f_n F)) (e_X12_entersPlaces μ) := by
  have hn := h.2.1.1
  have key := lpI (f := fun s : Int32 × Mm => bd_X12_entersPlaces_2 s.1 s.2) (sd := fun s : Int32 × Mm => sd_X12_entersPlaces_2 s.1 s.2) (dd := fun s : Int32 × Mm => s.2)
    (I := fun i s => ∃ μ', s = (nI i, μ') ∧ i ≤ f_n F ∧ MTR σ F (R ++ rows (plc F) i) μ')
    (R := fun z => MTR σ F (R ++ rows (plc F) (f_n F)) z) (f_n F) (by omega) ?_ (s0 := (0, μ)) ⟨μ, rfl, Nat.zero_le _, by simp only [rows, List.append_nil]; exact h⟩
  · exact key
  · rintro i _ hi ⟨μ', rfl, hi2, ht⟩
    dsimp only
    unfold sd_X12_entersPlaces_2 bd_X12_entersPlaces_2
    rw [ht.2.2.2.1.sz, nI_1]
    simp only [nI_leI (show f_n F < 2 ^ 31 by omega) (show i < 2 ^ 31 by omega)]
    rcases Nat.lt_or_ge i (f_n F) with z | z
    · rw [if_neg (by omega), cl7 (by omega), ht.2.2.2.1.p (by omega)]
      obtain ⟨q1, q2⟩ := MTR_add ht (by rw [List.length_append, rows_len]; omega) (100 + f_p F i).toInt64
      refine ⟨fun _ => ⟨in7 (by omega), q1⟩, .inl ⟨_, rfl, z, _, rfl, by omega, ?_⟩⟩
      show MTR σ F (R ++ (rows (plc F) i ++ [plc F i])) _
      rw [← List.append_assoc]; exact q2
    · have : i = f_n F := by omega
      subst this
      rw [if_pos (Nat.le_refl _)]
      exact ⟨fun y => absurd (Nat.le_refl _) y, .inr ⟨_, rfl, ht⟩⟩
def nnF (σ : ST) : FL := goA (s_r σ) (f_z (s_F σ) - f_t (s_F σ)).toNatClampNeg (s_F σ)
theorem call_decides (h : Sim σ R μ) : Call (p_X11_decides μ) (p_X12_decides (e_X11_decides μ)) (v_X11_decides μ) (v_X12_decides (e_X11_decides μ)) (e_X12_decides (e_X11_decides μ)) := by
  have fC := fr_X11_decides μ
  have m := h.m1 fC (by decide)
  refine Two (v := dirA (momA (nnF σ))) (R' := [(2000 + momA (nnF σ)).toInt64] ++ rows (plc (nnF σ)) (f_n (nnF σ))) h fC (fs_X12_decides _) ?_ ?_ (by decide) (by decide)
  · obtain ⟨p1, h1⟩ := CTR_become h.1 h.2.1 h.2.2.2.1
    unfold p_X11_decides v_X11_decides e_X11_decides
    simp only [forall_eq]
    generalize e_X1_become 8 1 μ = μ2 at h1 ⊢
    obtain ⟨p2, v2, h2⟩ := CTR_noon h1
    rw [v2, dir_C]
    generalize e_X1_goTillNoon 8 15 μ2 = μ3 at h2 ⊢
    obtain ⟨p5, h5⟩ := CTR_add (CTR_begin h2) (by simp) (2000 + momA (nnF σ)).toInt64
    unfold nnF at h5 p5 ⊢
    generalize e_X10_add (2000 + momA (goA (s_r σ) (f_z (s_F σ) - f_t (s_F σ)).toNatClampNeg (s_F σ))).toInt64 (e_X10_begin μ3) = μ5 at h5 ⊢
    obtain ⟨p6, h6⟩ := C_tells h5 (by simp)
    exact ⟨⟨p1, p2, p5, p6⟩, rfl, h6.2.2.2.2⟩
  · generalize e_X11_decides μ = μa at m ⊢
    obtain ⟨p1, h1⟩ := MTR_noon h.1 (m.1.th 0) (m.2.th 0)
    unfold p_X12_decides v_X12_decides e_X12_decides
    simp only [forall_eq]
    generalize e_X12_goesToNoon (upI μa 49 0 0) = μ2 at h1 ⊢
    have h2 := MTR_begin h1
    generalize upI μ2 49 1 0 = μ3 at h2 ⊢
    obtain ⟨p3, v3⟩ := MTR_mom h2
    rw [v3]
    obtain ⟨p5, h5⟩ := MTR_add h2 (by simp) (2000 + momA (nnF σ)).toInt64
    unfold nnF at h5 p5 ⊢
    generalize e_X12_enters (2000 + momA (goA (s_r σ) (f_z (s_F σ) - f_t (s_F σ)).toNatClampNeg (s_F σ))).toInt64 μ3 = μ5 at h5 ⊢
    obtain ⟨p6, h6⟩ := M_tells h5 (by simp)
    generalize e_X12_entersPlaces μ5 = μ6 at h6 ⊢
    obtain ⟨p7, v7⟩ := MTR_mom h6
    rw [v7, dir_M]
    exact ⟨⟨p1, p3, p5, p6, p7⟩, rfl, h6.2.2.2.2⟩
/-! bears -/
theorem setK_setK (F : FL) (k : Nat) (v w : Int32) : setK (setK F k v) k w = setK F k w := by
  show (f_n F, f_w F, f_h F, f_p F, ups (ups (f_k F) k v) k w, f_o F, f_t F, f_z F) = (f_n F, f_w F, f_h F, f_p F, ups (f_k F) k w, f_o F, f_t F, f_z F)
  have : ups (ups (f_k F) k v) k w = ups (f_k F) k w := by
    funext j
    unfold ups
    by_cases e : j = k <;> simp [e]
  rw [this]
def beP (σ : ST) (k : Nat) (i : Nat) : Bool := decide (¬ momA (setK (s_F σ) k (nI i)) ≤ 0)
def beT (σ : ST) (k : Nat) (i : Nat) : List Int64 := [(2000 + momA (setK (s_F σ) k (nI i))).toInt64]
theorem call_bears (h : Sim σ R μ) (x : Int32) : Call (p_X11_bears x μ) (p_X12_bears x (e_X11_bears x μ)) (v_X11_bears x μ) (v_X12_bears x (e_X11_bears x μ)) (e_X12_bears x (e_X11_bears x μ)) := by
  have fC := fr_X11_bears x μ
  have m := h.m1 fC (by decide)
  have hn := h.1.g.1
  refine Two (v := if hasF (s_F σ) x then fres (ff (beP σ x.toNatClampNeg) 0 10) else -1) (R' := if hasF (s_F σ) x then ftold (ff (beP σ x.toNatClampNeg) 0 10) (beT σ x.toNatClampNeg) R else R) h fC (fs_X12_bears x _) ?_ ?_ (by decide) (by decide)
  · obtain ⟨p1, h1⟩ := CTR_become h.1 h.2.1 h.2.2.2.1
    unfold p_X11_bears v_X11_bears e_X11_bears
    rw [C_has h.2.1.F]
    simp only [one0]
    cases hk : hasF (s_F σ) x
    · simp only [Bool.false_eq_true, not_false_eq_true, if_true, if_false]
      exact ⟨fun z => absurd trivial z, trivial, h.2.2.2.1⟩
    · obtain ⟨kc, ke⟩ := hasF_cl hn hk
      simp only [not_true_eq_false, if_true, if_false, forall_eq]
      generalize x.toNatClampNeg = k at kc ke ⊢
      subst ke
      generalize e_X1_become 8 1 μ = μ2 at h1 ⊢
      have key := lpI (f := fun s : Int32 × Int32 × Mm => bd_X11_bears_26 s.1 s.2.1 s.2.2) (sd := fun s : Int32 × Int32 × Mm => sd_X11_bears_26 s.1 s.2.1 s.2.2) (dd := fun s : Int32 × Int32 × Mm => (0, s.2.2))
        (I := fun i s => ∃ μ' G, s = (nI k, nI i, μ') ∧ i ≤ 10 ∧ CTR σ G R μ' ∧ (∀ v, setK G k v = setK (s_F σ) k v) ∧ ff (beP σ k) i (10 - i) = ff (beP σ k) 0 10)
        (R := fun z => z.1 = fres (ff (beP σ k) 0 10) ∧ ToC (ftold (ff (beP σ k) 0 10) (beT σ k) R) z.2) 10 (by omega) ?_ (s0 := (nI k, 0, μ2)) ⟨μ2, s_F σ, rfl, Nat.zero_le _, h1, fun _ => rfl, rfl⟩
      · exact ⟨fun _ => ⟨p1, key.1⟩, key.2⟩
      · rintro i _ hi ⟨μ', G, rfl, hi2, ht, hG, hff⟩
        dsimp only
        unfold sd_X11_bears_26 bd_X11_bears_26
        simp only [gt9 (show i < 2 ^ 31 by omega), nI_1, forall_eq, nI_clamp (show k < 2 ^ 31 by omega)]
        rcases Nat.lt_or_ge 9 i with z | z
        · have : i = 10 := by omega
          subst this
          rw [if_pos (by omega), ← hff]
          exact ⟨fun y => absurd z y, .inr ⟨_, rfl, rfl, ht.2.2.2.2⟩⟩
        · have h3 : CTR σ (setK (s_F σ) k (nI i)) R (upI μ' 12 k (nI i)) := by
            refine ⟨ht.1, RgF_setK h.1.g kc (by unfold inB; rw [nI_toInt (by omega)]; exact decide_eq_true (by omega)), ht.2.2.1.fr (L := [12]) (Fr.rfl.up (by simp)) (by decide), ?_, ht.2.2.2.2.fr (S := [12]) (Fr.rfl.up (by simp)) (by decide)⟩
            rw [← hG]
            exact ht.2.2.2.1.setK
          generalize upI μ' 12 k (nI i) = μ3 at h3 ⊢
          obtain ⟨q1, q2⟩ := CTR_mom h3
          rw [if_neg (by omega), q2]
          obtain ⟨q7, q8⟩ := CTR_add (CTR_begin h3) (by simp) (2000 + momA (setK (s_F σ) k (nI i))).toInt64
          refine ⟨fun _ => ⟨vp_in_nI (by omega) (by omega), q1, fun _ => q7⟩, ?_⟩
          rw [show 10 - i = (9 - i) + 1 by omega] at hff
          by_cases q : momA (setK (s_F σ) k (nI i)) ≤ 0
          · rw [if_pos q]
            rw [ff_n (P := beP σ k) (decide_eq_false (fun y => y q))] at hff
            exact .inl ⟨_, rfl, by omega, μ3, _, rfl, by omega, h3, fun v => setK_setK _ _ _ _, by rw [show 10 - (i + 1) = 9 - i by omega]; exact hff⟩
          · rw [if_neg q]
            rw [ff_y (P := beP σ k) (decide_eq_true q)] at hff
            rw [← hff]
            exact .inr ⟨_, rfl, rfl, q8.2.2.2.2⟩
  · generalize e_X11_bears x μ = μa at m ⊢
    obtain ⟨p1, h1⟩ := MTR_copies h.1 (m.1.th 0) (m.2.th 0)
    have hm0 := m.1.th 0
    unfold p_X12_bears v_X12_bears e_X12_bears
    simp only [forall_eq]
    rw [M_isOne hm0.F]
    simp only [one0]
    cases hk : hasF (s_F σ) x
    · simp only [Bool.false_eq_true, not_false_eq_true, if_true, if_false]
      exact ⟨fun z => absurd trivial z, trivial, m.2.th 0⟩
    · obtain ⟨kc, ke⟩ := hasF_cl hn hk
      simp only [not_true_eq_false, if_true, if_false]
      generalize x.toNatClampNeg = k at kc ke ⊢
      subst ke
      generalize e_X12_copies (upI μa 49 0 0) = μ2 at h1 ⊢
      have key := lpI (f := fun s : Int32 × Int32 × Mm => bd_X12_bears_21 s.1 s.2.1 s.2.2) (sd := fun s : Int32 × Int32 × Mm => sd_X12_bears_21 s.1 s.2.1 s.2.2) (dd := fun s : Int32 × Int32 × Mm => (0, s.2.2))
        (I := fun i s => ∃ μ' G, s = (nI k, nI i, μ') ∧ i ≤ 10 ∧ MTR σ G R μ' ∧ (∀ v, setK G k v = setK (s_F σ) k v) ∧ ff (beP σ k) i (10 - i) = ff (beP σ k) 0 10)
        (R := fun z => z.1 = fres (ff (beP σ k) 0 10) ∧ ToM (ftold (ff (beP σ k) 0 10) (beT σ k) R) z.2) 10 (by omega) ?_ (s0 := (nI k, 0, μ2)) ⟨μ2, s_F σ, rfl, Nat.zero_le _, h1, fun _ => rfl, rfl⟩
      · exact ⟨fun _ => ⟨p1, key.1⟩, key.2⟩
      · rintro i _ hi ⟨μ', G, rfl, hi2, ht, hG, hff⟩
        dsimp only
        unfold sd_X12_bears_21 bd_X12_bears_21
        simp only [gt9 (show i < 2 ^ 31 by omega), nI_1, forall_eq, cl14 (show k < 1000 by omega)]
        rcases Nat.lt_or_ge 9 i with z | z
        · have : i = 10 := by omega
          subst this
          rw [if_pos (by omega), ← hff]
          exact ⟨fun y => absurd z y, .inr ⟨_, rfl, rfl, ht.2.2.2.2⟩⟩
        · have h3 : MTR σ (setK (s_F σ) k (nI i)) R (upI μ' 53 (14 + k) (nI i)) := by
            refine ⟨ht.1, RgF_setK h.1.g kc (by unfold inB; rw [nI_toInt (by omega)]; exact decide_eq_true (by omega)), ht.2.2.1.fs (L := [53]) (Fs.rfl.up (by simp)) (by decide), ?_, ht.2.2.2.2.fs (S := [53]) (Fs.rfl.up (by simp)) (by decide)⟩
            rw [← hG]
            exact ht.2.2.2.1.setK (.inr rfl) (by omega)
          generalize upI μ' 53 (14 + k) (nI i) = μ3 at h3 ⊢
          obtain ⟨q1, q2⟩ := MTR_mom h3
          have h4 := MTR_begin h3
          obtain ⟨q3, q4⟩ := MTR_mom h4
          rw [if_neg (by omega), q2, q4]
          obtain ⟨q7, q8⟩ := MTR_add h4 (by simp) (2000 + momA (setK (s_F σ) k (nI i))).toInt64
          refine ⟨fun _ => ⟨in14 (by omega), q1, fun _ => ⟨q3, q7⟩⟩, ?_⟩
          rw [show 10 - i = (9 - i) + 1 by omega] at hff
          by_cases q : momA (setK (s_F σ) k (nI i)) ≤ 0
          · rw [if_pos q]
            rw [ff_n (P := beP σ k) (decide_eq_false (fun y => y q))] at hff
            exact .inl ⟨_, rfl, by omega, μ3, _, rfl, by omega, h3, fun v => setK_setK _ _ _ _, by rw [show 10 - (i + 1) = 9 - i by omega]; exact hff⟩
          · rw [if_neg q]
            rw [ff_y (P := beP σ k) (decide_eq_true q)] at hff
            rw [← hff]
            exact .inr ⟨_, rfl, rfl, q8.2.2.2.2⟩
end TS

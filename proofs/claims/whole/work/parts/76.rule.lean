/-! rule -/
section RW
variable {σ : ST} {R : List Int64} {μ : Mm}
theorem C_becR {r : List Nat} (h : RuC 20 r μ) : p_X5_become 15 20 μ ∧ RuC 15 r (e_X5_become 15 20 μ) := by
  obtain ⟨h1, h2, h3, h4, h5⟩ := h
  have key := lpI (f := fun s : Int32 × Mm => bd_X5_become_2 15 20 s.1 s.2) (sd := fun s : Int32 × Mm => sd_X5_become_2 15 20 s.1 s.2) (dd := fun s : Int32 × Mm => s.2)
    (I := fun i s => i ≤ r.length ∧ ∃ μ', s = (nI i, μ') ∧ Fr [16] μ μ' ∧ ∀ j, j < i → μ'.1 16 j = tokC (r.getD j 0))
    (R := fun z : Mm => Fr [16] μ z ∧ ∀ j, j < r.length → z.1 16 j = tokC (r.getD j 0)) r.length (by omega) ?_ (s0 := (0, μ)) ⟨Nat.zero_le _, μ, rfl, Fr.rfl, fun j hj => absurd hj (by omega)⟩
  · obtain ⟨k1, k2, k3⟩ := key
    unfold p_X5_become e_X5_become
    simp only [forall_eq]
    generalize (whl _ _ FU ((0, μ) : Int32 × Mm) : Mm) = z at k2 k3 ⊢
    have z1 : z.1 20 1 = nI r.length := by rw [k2.1 20 (by decide)]; exact h3
    have z2 : (upI z 15 1 (z.1 20 1)).1 20 2 = if 1004 ∈ r then 1 else 0 := by rw [rI, if_neg (by omega), k2.1 20 (by decide)]; exact h5
    rw [z2]
    refine ⟨⟨k1, ?_, ?_⟩, h1, h2, ?_, fun i hi => ?_, ?_⟩
    · by_cases a1 : 1004 ∈ r
      · rw [if_pos a1]; rfl
      · rw [if_neg a1]; rfl
    · by_cases a1 : 1004 ∈ r
      · rw [if_pos a1]; rfl
      · rw [if_neg a1]; rfl
    · rw [rI, if_neg (by omega), rI, if_pos ⟨rfl, rfl⟩]; exact z1
    · rw [rI, if_neg (by omega), rI, if_neg (by omega)]; exact k3 i hi
    · rw [rI, if_pos ⟨rfl, rfl⟩]
  · rintro i _ hi ⟨hi2, μ', rfl, hf, hz⟩
    dsimp only
    unfold sd_X5_become_2 bd_X5_become_2
    have z1 : μ'.1 20 1 = nI r.length := by rw [hf.1 20 (by decide)]; exact h3
    rw [z1, if_neg (lt41 i (by omega)), nI_clamp (show i < 2 ^ 31 by omega), nI_1]
    simp only [nI_leI (show r.length < 2 ^ 31 by omega) (show i < 2 ^ 31 by omega)]
    rcases Nat.lt_or_ge i r.length with z | z
    · rw [if_neg (show ¬ r.length ≤ i by omega)]
      have v := vp_in_nI (N := 41) (show i < 41 by omega) (by omega)
      refine ⟨fun _ _ => ⟨v, v⟩, .inl ⟨_, rfl, z, z, _, rfl, hf.up (by simp), fun j hj => ?_⟩⟩
      rw [rI]
      by_cases q : j = i
      · rw [if_pos ⟨rfl, q⟩, hf.1 (20 + 1) (by decide), q]; exact h4 i z
      · rw [if_neg (by omega)]; exact hz j (by omega)
    · have e : i = r.length := by omega
      rw [e] at hz
      rw [if_pos z]
      exact ⟨fun y => absurd z y, .inr ⟨_, rfl, hf, hz⟩⟩
theorem M_lays {p0 : Nat} {L : List Nat} (hp : p0 ≠ 57 ∧ p0 ≠ 49) (hl : L.length ≤ 80) (hc : ∀ i, i < L.length → μ.1 p0 i = nI (L.getD i 0)) : p_X12_laysCode p0 (nI L.length) μ ∧ (e_X12_laysCode p0 (nI L.length) μ).1 49 19 = nI L.length ∧ ∀ i, i < L.length → (e_X12_laysCode p0 (nI L.length) μ).1 57 i = nI (L.getD i 0) := by
  have key := lpI (f := fun s : Int32 × Int32 × Mm => bd_X12_laysCode_7 p0 s.1 s.2.1 s.2.2) (sd := fun s : Int32 × Int32 × Mm => sd_X12_laysCode_7 p0 s.1 s.2.1 s.2.2) (dd := fun s : Int32 × Int32 × Mm => s.2.2)
    (I := fun i s => i ≤ L.length ∧ ∃ μ', s = (nI L.length, nI i, μ') ∧ Fr [57] (upI μ 49 19 (nI L.length)) μ' ∧ ∀ j, j < i → μ'.1 57 j = nI (L.getD j 0))
    (R := fun z : Mm => Fr [57] (upI μ 49 19 (nI L.length)) z ∧ ∀ j, j < L.length → z.1 57 j = nI (L.getD j 0)) L.length (by omega) ?_ (s0 := (nI L.length, 0, upI μ 49 19 (nI L.length))) ⟨Nat.zero_le _, _, rfl, Fr.rfl, fun j hj => absurd hj (by omega)⟩
  · obtain ⟨k1, k2, k3⟩ := key
    unfold p_X12_laysCode e_X12_laysCode
    simp only [forall_eq]
    refine ⟨k1, ?_, k3⟩
    rw [k2.1 49 (by decide), rI, if_pos ⟨rfl, rfl⟩]
  · rintro i _ hi ⟨hi2, μ', rfl, hf, hz⟩
    dsimp only
    unfold sd_X12_laysCode_7 bd_X12_laysCode_7
    rw [nI_clamp (show i < 2 ^ 31 by omega), nI_1]
    simp only [nI_leI (show L.length < 2 ^ 31 by omega) (show i < 2 ^ 31 by omega)]
    rcases Nat.lt_or_ge i L.length with z | z
    · rw [if_neg (show ¬ L.length ≤ i by omega)]
      have v := vp_in_nI (N := 80) (show i < 80 by omega) (by omega)
      refine ⟨fun _ => ⟨v, v⟩, .inl ⟨_, rfl, z, z, _, rfl, hf.up (by simp), fun j hj => ?_⟩⟩
      rw [rI]
      by_cases q : j = i
      · rw [if_pos ⟨rfl, q⟩, hf.1 p0 (by simp; exact hp.1), rI, if_neg (by omega), q]; exact hc i z
      · rw [if_neg (by omega)]; exact hz j (by omega)
    · have e : i = L.length := by omega
      rw [e] at hz
      rw [if_pos z]
      exact ⟨fun y => absurd z y, .inr ⟨_, rfl, hf, hz⟩⟩
def setR (σ : ST) (r : List Nat) : ST := (s_F σ, r, s_T σ, s_U σ, s_K σ, s_S σ, s_H σ)
theorem RuM_L {L r : List Nat} (h1 : μ.1 49 19 = nI L.length) (h2 : ∀ i, i < L.length → μ.1 57 i = nI (L.getD i 0)) (hL : (L = [] ∧ r = ru0) ∨ (L ≠ [] ∧ r = L)) : RuM r μ := by
  rcases hL with ⟨e1, e2⟩ | ⟨e1, e2⟩
  · subst e1
    exact .inr ⟨h1, e2⟩
  · subst e2
    exact .inl ⟨List.length_pos_iff.mpr e1, h1, h2⟩
theorem OK_setR {r : List Nat} (ok : OK σ) (h1 : r.length ≤ 40) (h2 : wfd r 0) : OK (setR σ r) := ⟨ok.1, ⟨h1, h2⟩, ok.2.2⟩
theorem MS_setR {r : List Nat} {μ' : Mm} {S : List Nat} (h : MS σ μ) (f : Fs S μ μ') (hr : RuM r μ') (hS : ∀ x, x ∈ S → x ∈ [57, 58, 74, 1019]) : MS (setR σ r) μ' := by
  have n : ∀ {c}, c ∉ [57, 58, 74, 1019] → c ∉ S := fun hc q => hc (hS _ q)
  exact ⟨h.F.fs f ⟨n (by decide), by decide, n (by decide), n (by decide), n (by decide)⟩, hr, h.T.fs f ⟨n (by decide), n (by decide), n (by decide)⟩, h.U.fs f ⟨n (by decide), n (by decide), n (by decide)⟩, h.K.fs f ⟨n (by decide), n (by decide), n (by decide), n (by decide), n (by decide)⟩, h.S.fs f ⟨n (by decide), n (by decide), n (by decide), n (by decide), n (by decide)⟩, h.H.fs f ⟨n (by decide), n (by decide), n (by decide), n (by decide)⟩⟩
theorem okR_uq {T : List Nat} {b b' : Nat} {S S' : RS} (h : T.length = 0 ∨ EnR T rs0 (min 40 T.length) b S) (h' : T.length = 0 ∨ EnR T rs0 (min 40 T.length) b' S') : (okR T b S ↔ okR T b' S') ∧ (¬ okR T b S → b = b') ∧ rdL T S = rdL T S' := by
  by_cases q : T.length = 0
  · unfold okR rdL
    simp [q]
  · obtain ⟨e1, e2⟩ := EnR_uq (h.resolve_left q) (h'.resolve_left q)
    subst e1 e2
    exact ⟨Iff.rfl, fun _ => rfl, rfl⟩
theorem call_rule (h : Sim σ R μ) : Call (p_X11_rule μ) (p_X12_rule (e_X11_rule μ)) (v_X11_rule μ) (v_X12_rule (e_X11_rule μ)) (e_X12_rule (e_X11_rule μ)) := by
  obtain ⟨ok, hc, hm, tc, tm⟩ := h
  have hT : ∀ i, chT (s_T σ) i < 256 := ok.2.2.1
  have fC := fr_X11_rule μ
  have hm1 : MSR σ R (e_X11_rule μ) := ⟨hm.frC fC (by decide), tm.frC fC (by decide)⟩
  have tc1 := tc.fr fC (by decide)
  obtain ⟨p1, b, S, hE, hb, h1⟩ := C_read hc.T hT
  have f2 := fr_X5_read 20 μ
  have hc2 : CS σ (e_X5_read 20 μ) := hc.fr f2 (by decide)
  have hc3 := C_clear hc2
  have f3 := fr_X9_clear (e_X5_read 20 μ)
  have cls : p_X11_rule μ ∧ ((okR (s_T σ) b S ∧ v_X11_rule μ = 0 ∧ CS (setR (setT σ []) (rdL (s_T σ) S)) (e_X11_rule μ) ∧ (rdL (s_T σ) S).length ≤ 40 ∧ wfd (rdL (s_T σ) S) 0) ∨ (¬ okR (s_T σ) b S ∧ v_X11_rule μ = -1 - nI b ∧ CS (setT σ []) (e_X11_rule μ))) := by
    unfold p_X11_rule v_X11_rule e_X11_rule
    simp only [forall_eq]
    rcases h1 with ⟨g1, g2, g3⟩ | ⟨g1, g2⟩
    · have g4 := g3.fr f3 (by decide)
      obtain ⟨q1, q2⟩ := C_becR g4
      have f4 := fr_X5_become 15 20 (e_X9_clear (e_X5_read 20 μ))
      rw [g2]
      simp only [if_true, true_imp_iff]
      exact ⟨⟨p1, q1⟩, .inl ⟨g1, trivial, ⟨hc3.F.fr f4 (by decide), q2, hc3.T.fr f4 (by decide), hc3.U.fr f4 (by decide), hc3.K.fr f4 (by decide), hc3.S.fr f4 (by decide), hc3.H.fr f4 (by decide)⟩, g3.1, g3.2.1⟩⟩
    · have gn : ¬ (nI b = -1) := nI_nm1 (by omega)
      rw [g2]
      simp only [gn, if_false, false_imp_iff, and_true]
      exact ⟨p1, .inr ⟨g1, trivial, hc3⟩⟩
  obtain ⟨c1, c2⟩ := cls
  have hm0 : MSR σ R (upI (e_X11_rule μ) 49 0 0) := ⟨hm1.1.th 0, hm1.2.th 0⟩
  obtain ⟨m1, b', S', hE', hb', m2, m3, m4⟩ := M_readsRule ok hm0
  obtain ⟨u1, u2, u3⟩ := okR_uq hE hE'
  have f0 : Fs [57, 58, 1000, 1009, 1010, 1011, 1012, 1019, 1020] (e_X11_rule μ) (upI (e_X11_rule μ) 49 0 0) := Fs.rfl.upF (by simp)
  have f5 := f0.call m3 (by decide)
  unfold p_X12_rule v_X12_rule e_X12_rule
  simp only [forall_eq]
  rcases m4 with ⟨g1, g2, L, l1, l2, l3⟩ | ⟨g1, g2⟩
  · rw [g2]
    simp only [if_true, true_imp_iff]
    rcases c2 with ⟨d1, d2, d3, d4, d5⟩ | ⟨d1, d2, d3⟩
    · rw [l2.1]
      obtain ⟨w1, w2, w3⟩ := M_lays (p0 := 58) (by decide) (by omega) l2.2
      have f6 := fs_X12_laysCode 58 (nI L.length) (e_X12_readsRule (upI (e_X11_rule μ) 49 0 0))
      refine ⟨c1, ⟨m1, w1⟩, d2, Both (σ' := setR (setT σ []) (rdL (s_T σ) S)) ⟨ok, hc, hm, tc, tm⟩ (OK_setR (OK_setT ok) d4 d5) d3 tc1 (MS_setR m2.1 f6 ?_ (by decide)) (m2.2.fs f6 (by decide)) (f5.call f6 (by decide)) (by decide)⟩
      rw [u3]
      exact RuM_L w2 w3 l3
    · exact absurd (u1.mpr g1) d1
  · have gn : ¬ (-1 - nI b' = 0) := by
      rw [fa_eq, t0, toInt_subS (by rw [nI_toInt (by omega), show (-1 : Int32).toInt = -1 by decide +kernel]; omega), nI_toInt (by omega), show (-1 : Int32).toInt = -1 by decide +kernel]
      omega
    rw [g2]
    simp only [gn, if_false, false_imp_iff, and_true]
    rcases c2 with ⟨d1, d2, d3, d4, d5⟩ | ⟨d1, d2, d3⟩
    · exact absurd (u1.mp d1) g1
    · refine ⟨c1, m1, by rw [d2, u2 d1], Both (σ' := setT σ []) ⟨ok, hc, hm, tc, tm⟩ (OK_setT ok) d3 tc1 m2.1 m2.2 f5 (by decide)⟩
end RW

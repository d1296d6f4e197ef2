/-! keep, again, seen, forget, heard, denies, count, end -/
theorem s3 : (3 : Int64).toInt = 3 := by decide +kernel
theorem s4 : (4 : Int64).toInt = 4 := by decide +kernel
theorem s20 : (20 : Int64).toInt = 20 := by decide +kernel
theorem t20 : (20 : Int32).toInt = 20 := by decide +kernel
theorem t2 : (2 : Int32).toInt = 2 := by decide +kernel
theorem t3 : (3 : Int32).toInt = 3 := by decide +kernel
theorem t18 : (18 : Int32).toInt = 18 := by decide +kernel
theorem t7 : (7 : Int32).toInt = 7 := by decide +kernel
theorem inB_nI {x : Int32} {h : Nat} (q : inB x 0 h = true) (hh : h < 2 ^ 31) : ∃ i, i ≤ h ∧ x = nI i := by
  have := inB_t q
  obtain ⟨j, hj, rfl⟩ := nI_of (x := x) (by rw [fa_lt, t0]; omega)
  rw [nI_toInt hj] at this
  exact ⟨j, by omega, rfl⟩
theorem ite_lt {α : Type} {x h : Int32} {H : Int} {A B : α} (hh : h.toInt = H + 1) : (if x < 0 then A else if x < h then B else A) = if inB x 0 H then B else A := by
  unfold inB
  simp only [fa_lt, hh, t0, decide_eq_true_eq]
  by_cases q : x.toInt < 0
  · rw [if_pos q, if_neg (by omega)]
  · rw [if_neg q]
    by_cases q2 : x.toInt < H + 1
    · rw [if_pos q2, if_pos (by omega)]
    · rw [if_neg q2, if_neg (by omega)]
theorem ite_ge {α : Type} {x h : Int32} {H : Int} {A B : α} (hh : h.toInt = H + 1) : (if x < 0 then A else if h ≤ x then A else B) = if inB x 0 H then B else A := by
  unfold inB
  simp only [fa_lt, fa_le, hh, t0, decide_eq_true_eq]
  by_cases q : x.toInt < 0
  · rw [if_pos q, if_neg (by omega)]
  · rw [if_neg q]
    by_cases q2 : H + 1 ≤ x.toInt
    · rw [if_pos q2, if_neg (by omega)]
    · rw [if_neg q2, if_pos (by omega)]
theorem ite_gt {α : Type} {x l h : Int32} {L H : Int} {A B : α} (hl : l.toInt = L) (hh : h.toInt = H) : (if x < l then A else if h < x then A else B) = if inB x L H then B else A := by
  unfold inB
  simp only [fa_lt, hl, hh, decide_eq_true_eq]
  by_cases q : x.toInt < L
  · rw [if_pos q, if_neg (by omega)]
  · rw [if_neg q]
    by_cases q2 : H < x.toInt
    · rw [if_pos q2, if_neg (by omega)]
    · rw [if_neg q2, if_pos (by omega)]
def setKp (K : Nat → Option Rw) (i : Nat) (R : Rw) : Nat → Option Rw := fun j => if j = i then some R else K j
section CB
variable {σ : ST} {R : List Int64} {μ : Mm}
theorem vnb1 : vp_nar .boolean 1 = 1 := by decide +kernel
theorem vnb0 : vp_nar .boolean 0 = 0 := by decide +kernel
theorem call_keep (h : Sim σ R μ) (x : Int32) : Call (p_X11_keep x μ) (p_X12_keep x (e_X11_keep x μ)) (v_X11_keep x) (v_X12_keep x) (e_X12_keep x (e_X11_keep x μ)) := by
  obtain ⟨ok, hc, hm, tc, tm⟩ := h
  have fC := fr_X11_keep x μ
  have hm1 := hm.frC fC (by decide)
  have tm1 := tm.frC fC (by decide)
  have tc1 := tc.fr fC (by decide)
  have fM := fs_X12_keep x (e_X11_keep x μ)
  have hv : v_X11_keep x = v_X12_keep x := by
    unfold v_X11_keep v_X12_keep v_X3_shelve
    rw [ite_lt (H := 2) t3, in_B s0 s2]
    cases inB x 0 2 <;> rfl
  cases hx : inB x 0 2
  · have e1 : e_X11_keep x μ = μ := by unfold e_X11_keep e_X3_shelve; rw [ite_lt (H := 2) t3, hx]; rfl
    have e3 : p_X11_keep x μ := by
      unfold p_X11_keep p_X3_shelve
      intro g1 g2
      exfalso
      simp only [inB, decide_eq_false_iff_not] at hx
      rw [fa_lt, t0] at g1
      rw [fa_lt, t3] at g2
      omega
    have e4 : p_X12_keep x (e_X11_keep x μ) := by
      unfold p_X12_keep
      rintro _ rfl g
      rw [in_B s0 s2, hx] at g
      exact absurd rfl g
    have e6 : e_X12_keep x (e_X11_keep x μ) = upI (e_X11_keep x μ) 49 0 0 := by unfold e_X12_keep; dsimp only; rw [in_B s0 s2, hx]; rfl
    refine ⟨e3, e4, hv, ?_⟩
    rw [e6, e1]
    exact Both ⟨ok, hc, hm, tc, tm⟩ ok hc tc (hm.th 0) (tm.th 0) (Fs.upF (S := [1000]) Fs.rfl (by simp)) (by decide)
  · obtain ⟨i, hi, rfl⟩ := inB_nI (h := 2) hx (by omega)
    have hw : nI i * 24 = nI (24 * i) := by rw [show (24 : Int32) = nI 24 from rfl, nI_mul, Nat.mul_comm]
    obtain ⟨p1, p2, p3⟩ := C_writeTo (c := 31) (n0 := 72) (a := 24 * i) hc.F (by omega) (by omega) (by omega)
    have e1 : e_X11_keep (nI i) μ = upI (e_X1_writeTo 1 31 72 (nI (24 * i)) μ) 32 i 1 := by
      unfold e_X11_keep e_X3_shelve
      rw [ite_lt (H := 2) t3, hx, hw, vnb1, nI_clamp (by omega)]; rfl
    have hC : CS (s_F σ, s_r σ, s_T σ, s_U σ, setKp (s_K σ) i (rowF (s_F σ)), s_S σ, s_H σ) (e_X11_keep (nI i) μ) := by
      refine ⟨hc.F.fr fC (by decide), hc.r.fr fC (by decide), hc.T.fr fC (by decide), hc.U.fr fC (by decide), ?_, hc.S.fr fC (by decide), hc.H.fr fC (by decide)⟩
      rw [e1]
      intro j hj
      have fw := fr_X1_writeTo 1 31 72 (nI (24 * i)) μ
      show _ = (if (setKp (s_K σ) i (rowF (s_F σ)) j).isSome then 1 else 0) ∧ ∀ S, setKp (s_K σ) i (rowF (s_F σ)) j = some S → _
      unfold setKp
      by_cases e : j = i
      · subst e
        rw [if_pos rfl]
        refine ⟨by rw [rI, if_pos ⟨rfl, rfl⟩]; rfl, fun S hS => ?_⟩
        cases hS
        exact p2.same (fun _ _ _ => by rw [rIc (by omega)])
      · rw [if_neg e]
        refine ⟨by rw [rI, if_neg (by omega), fw.1 32 (by simp)]; exact (hc.K j hj).1, fun S hS => ?_⟩
        exact ((hc.K j hj).2 S hS).same (fun a _ _ => by rw [rIc (by omega), p3 a (by omega)])
    have e3 : p_X11_keep (nI i) μ := by
      unfold p_X11_keep p_X3_shelve
      rw [hw]
      exact fun _ _ => ⟨p1, fun _ _ => vp_in_nI (by omega) (by omega)⟩
    generalize e_X11_keep (nI i) μ = μ1 at *
    have hm0 := hm1.th 0
    obtain ⟨c, k1, k2, k3⟩ := hm0.K
    have key := lpI (f := fun s : Int32 × Int32 × Mm => bd_X12_keep_38 s.1 s.2.1 s.2.2) (sd := fun s : Int32 × Int32 × Mm => sd_X12_keep_38 s.1 s.2.1 s.2.2) (dd := fun s : Int32 × Int32 × Mm => s.2.2)
      (I := fun a s => ∃ μ', s = (nI i, nI a, μ') ∧ a ≤ 24 ∧ Fr [77] (upI (upI (upI μ1 49 0 0) 75 i 1) 76 i (nI c)) μ' ∧ (∀ j, j < a → μ'.1 77 (24 * i + j) = μ1.1 52 j) ∧ ∀ j, j < 24 * i ∨ 24 * i + 24 ≤ j → μ'.1 77 j = μ1.1 77 j)
      (R := fun z => Fr [77] (upI (upI (upI μ1 49 0 0) 75 i 1) 76 i (nI c)) z ∧ (∀ j, j < 24 → z.1 77 (24 * i + j) = μ1.1 52 j) ∧ ∀ j, j < 24 * i ∨ 24 * i + 24 ≤ j → z.1 77 j = μ1.1 77 j) 24 (by omega) ?_ (s0 := (nI i, 0, upI (upI (upI μ1 49 0 0) 75 i 1) 76 i (nI c))) ⟨_, rfl, Nat.zero_le _, Fr.rfl, fun j hj => absurd hj (by omega), fun j _ => by rw [rIc (by omega), rIc (by omega), rIc (by omega)]⟩
    · obtain ⟨y1, y2, y3, y4⟩ := key
      have e4 : p_X12_keep (nI i) μ1 := by
        unfold p_X12_keep
        simp only [forall_eq]
        rw [vnb1, nI_clamp (by omega), rIc (show 49 ≠ 75 by omega), k2]
        exact fun _ => ⟨vp_in_nI (by omega) (by omega), vp_in_nI (by omega) (by omega), y1⟩
      have e5 : MS (s_F σ, s_r σ, s_T σ, s_U σ, setKp (s_K σ) i (rowF (s_F σ)), s_S σ, s_H σ) (e_X12_keep (nI i) μ1) := by
        refine ⟨hm1.F.fs fM (by decide), hm1.r.fs fM (by decide), hm1.T.fs fM (by decide), hm1.U.fs fM (by decide), ?_, hm1.S.fs fM (by decide), hm1.H.fs fM (by decide)⟩
        unfold e_X12_keep
        rw [in_B s0 s2, hx]
        simp only [if_true, show ¬ ((1 : Int32) = 0) from by decide, if_false]
        rw [vnb1, nI_clamp (by omega), rIc (show 49 ≠ 75 by omega), k2]
        generalize whl _ _ FU _ = z at y2 y3 y4 ⊢
        refine ⟨c, k1, by rw [y2.1 49 (by simp), rIc (by omega), rIc (by omega)]; exact k2, fun j hj => ?_⟩
        show (∀ S, setKp (s_K σ) i (rowF (s_F σ)) j = some S → _) ∧ (setKp (s_K σ) i (rowF (s_F σ)) j = none → _) ∧ _
        rw [y2.1 75 (by simp), y2.1 76 (by simp), rI (a := 76), rIc (show 75 ≠ 76 by omega), rI (a := 75)]
        unfold setKp
        by_cases e : j = i
        · subst e
          simp only [and_self, if_true]
          refine ⟨fun S hS => ⟨by decide, trivial, ?_⟩, fun z => absurd z (by simp), fun _ => ⟨c, Nat.le_refl _, rfl⟩⟩
          cases hS
          exact hm1.F.row.same (fun a ha => by rw [y3 a ha, Nat.zero_add])
        · simp only [e, and_false, if_false]
          rw [rIc (show 76 ≠ 75 by omega)]
          obtain ⟨q1, q2, q3⟩ := k3 j hj
          refine ⟨fun S hS => ⟨(q1 S hS).1, (q1 S hS).2.1, (q1 S hS).2.2.same (fun a ha => ?_)⟩, q2, q3⟩
          rw [y4 _ (by omega), rIc (by omega)]
      refine ⟨e3, e4, hv, Both ⟨ok, hc, hm, tc, tm⟩ ?_ hC tc1 e5 (tm1.fs fM (by decide)) fM (by decide)⟩
      obtain ⟨h1, h2, h3, h4, h5, h6, h7⟩ := ok
      refine ⟨h1, h2, h3, h4, fun j S hj hS => ?_, h6, h7⟩
      have hS' : (if j = i then some (rowF (s_F σ)) else s_K σ j) = some S := hS
      by_cases e : j = i
      · rw [if_pos e] at hS'
        cases hS'
        exact RgF_row h1
      · rw [if_neg e] at hS'
        exact h5 j S hj hS'
    · rintro a _ ha ⟨μ', rfl, hi2, hf, hcc, hs⟩
      dsimp only
      unfold sd_X12_keep_38 bd_X12_keep_38
      have e0 : (24 : Int32) * nI i + nI a = nI (24 * i + a) := by rw [show (24 : Int32) = nI 24 from rfl, nI_mul, nI_add]
      rw [e0, nI_1, show (24 : Int32) = nI 24 from rfl]
      simp only [nI_leI (show 24 < 2 ^ 31 by omega) (show a < 2 ^ 31 by omega), nI_clamp (show a < 2 ^ 31 by omega), nI_clamp (show 24 * i + a < 2 ^ 31 by omega)]
      rcases Nat.lt_or_ge a 24 with z | z
      · rw [if_neg (by omega)]
        have g : μ'.1 52 a = μ1.1 52 a := by rw [hf.1 52 (by simp), rIc (by omega), rIc (by omega), rIc (by omega)]
        refine ⟨fun _ => ⟨vp_in_nI (by omega) (by omega), vp_in_nI (by omega) (by omega)⟩, .inl ⟨_, rfl, z, _, rfl, by omega, hf.up (by simp), fun j hj => ?_, fun j hj => ?_⟩⟩
        · rw [rI, g]
          by_cases e : j = a
          · subst e; rw [if_pos ⟨rfl, rfl⟩]
          · rw [if_neg (by omega)]; exact hcc j (by omega)
        · rw [rI, if_neg (by omega)]; exact hs j hj
      · have e : a = 24 := by omega
        subst e
        rw [if_pos (by omega)]
        exact ⟨fun y => absurd (Nat.le_refl _) y, .inr ⟨_, rfl, hf, hcc, hs⟩⟩
theorem call_again (h : Sim σ R μ) (x : Int32) : Call (p_X11_again x μ) (p_X12_again x (e_X11_again x μ)) (v_X11_again x μ) (v_X12_again x (e_X11_again x μ)) (e_X12_again x (e_X11_again x μ)) := by
  obtain ⟨ok, hc, hm, tc, tm⟩ := h
  have fC := fr_X11_again x μ
  have hm1 := hm.frC fC (by decide)
  have tm1 := tm.frC fC (by decide)
  have tc1 := tc.fr fC (by decide)
  have fM := fs_X12_again x (e_X11_again x μ)
  have hno : (inB x 0 2 = true → s_K σ x.toNatClampNeg = none) → Call (p_X11_again x μ) (p_X12_again x (e_X11_again x μ)) (v_X11_again x μ) (v_X12_again x (e_X11_again x μ)) (e_X12_again x (e_X11_again x μ)) := by
    intro hK
    have e1 : e_X11_again x μ = μ ∧ v_X11_again x μ = 0 ∧ p_X11_again x μ := by
      unfold e_X11_again v_X11_again p_X11_again e_X3_takeDown v_X3_takeDown p_X3_takeDown
      rw [ite_ge (H := 2) t3, ite_ge (H := 2) t3]
      cases hx : inB x 0 2
      · refine ⟨rfl, rfl, fun g1 g2 => ?_⟩
        exfalso
        simp only [inB, decide_eq_false_iff_not] at hx
        rw [fa_lt, t0] at g1
        rw [fa_le, t3] at g2
        omega
      · obtain ⟨i, hi, rfl⟩ := inB_nI (h := 2) hx (by omega)
        have k := hK hx
        rw [nI_clamp (by omega)] at k ⊢
        have g : μ.1 32 i = 0 := by rw [(hc.K i (by omega)).1, k]; rfl
        simp only [if_true, g]
        exact ⟨trivial, trivial, fun _ _ => ⟨vp_in_nI (by omega) (by omega), fun z => absurd trivial z⟩⟩
    have hb : Sim σ R (upI μ 49 0 0) := ⟨ok, hc.fc (Fs.fc (S := [1000]) (Fs.upF Fs.rfl (by simp)) (by decide)), hm.th 0, tc.fc (Fs.fc (S := [1000]) (Fs.upF Fs.rfl (by simp)) (by decide)), tm.th 0⟩
    have e2 : e_X12_again x μ = upI μ 49 0 0 ∧ v_X12_again x μ = 0 ∧ p_X12_again x μ := by
      unfold e_X12_again v_X12_again p_X12_again
      simp only [forall_eq]
      rw [in_B s0 s2]
      cases hx : inB x 0 2
      · exact ⟨rfl, rfl, fun g => absurd rfl g⟩
      · obtain ⟨i, hi, rfl⟩ := inB_nI (h := 2) hx (by omega)
        have k := hK hx
        rw [nI_clamp (by omega)] at k ⊢
        obtain ⟨c, k1, k2, k3⟩ := hb.2.2.1.K
        rw [k2]
        rcases (k3 i (by omega)).2.1 k with q | q
        · simp only [if_true, q, show ¬ ((1 : Int32) = 0) from by decide, if_false]
          exact ⟨trivial, trivial, fun _ => ⟨vp_in_nI (by omega) (by omega), fun z => absurd trivial z⟩⟩
        · simp only [if_true, q, show ¬ ((1 : Int32) = 0) from by decide, if_false]
          by_cases q2 : (upI μ 49 0 0).1 75 i = 0
          · simp only [q2, if_true]
            exact ⟨trivial, trivial, fun _ => ⟨vp_in_nI (by omega) (by omega), fun z => absurd trivial z⟩⟩
          · simp only [q2, if_false]
            exact ⟨trivial, trivial, fun _ => ⟨vp_in_nI (by omega) (by omega), fun _ => ⟨vp_in_nI (by omega) (by omega), fun z => absurd z id⟩⟩⟩
    rw [e1.1, e1.2.1, e2.1, e2.2.1]
    exact ⟨e1.2.2, e2.2.2, rfl, σ, R, hb⟩
  cases hx : inB x 0 2
  · exact hno (fun z => absurd (hx.symm.trans z) (by decide))
  · obtain ⟨i, hi, rfl⟩ := inB_nI (h := 2) hx (by omega)
    cases hk : s_K σ i
    · exact hno (fun _ => by rw [nI_clamp (by omega)]; exact hk)
    · rename_i S
      have hw : nI i * 24 = nI (24 * i) := by rw [show (24 : Int32) = nI 24 from rfl, nI_mul, Nat.mul_comm]
      obtain ⟨p1, p2⟩ := C_readFrom (n0 := 72) hc.F ((hc.K i (by omega)).2 S hk) (by omega) (by omega) (by omega)
      have g : μ.1 32 i = 1 := by rw [(hc.K i (by omega)).1, hk]; rfl
      have e1 : e_X11_again (nI i) μ = upI (e_X1_readFrom 1 31 72 (nI (24 * i)) μ) 29 2 0 ∧ v_X11_again (nI i) μ = 1 ∧ p_X11_again (nI i) μ := by
        unfold e_X11_again v_X11_again p_X11_again e_X3_takeDown v_X3_takeDown p_X3_takeDown
        rw [ite_ge (H := 2) t3, ite_ge (H := 2) t3, hx, hw, nI_clamp (by omega), g]
        exact ⟨rfl, rfl, fun _ _ => ⟨vp_in_nI (by omega) (by omega), fun _ => p1⟩⟩
      have hC : CS (putF (s_F σ) S, s_r σ, s_T σ, [], s_K σ, s_S σ, s_H σ) (e_X11_again (nI i) μ) := by
        refine ⟨?_, hc.r.fr fC (by decide), hc.T.fr fC (by decide), ?_, hc.K.fr fC (by decide), hc.S.fr fC (by decide), hc.H.fr fC (by decide)⟩
        · rw [e1.1]; exact p2.up (by omega)
        · rw [e1.1]
          obtain ⟨u1, u2, nx, u3, u4, u5⟩ := hc.U
          refine ⟨by simp [s_U], by rw [rI, if_pos ⟨rfl, rfl⟩]; rfl, nx, u3, ?_, fun j hj => absurd hj (by simp [s_U])⟩
          rw [rI, if_neg (by omega), (fr_X1_readFrom 1 31 72 (nI (24 * i)) μ).1 29 (by simp)]
          exact u4
      rw [e1.2.1]
      generalize e_X11_again (nI i) μ = μ1 at *
      have hm0 := hm1.th 0
      obtain ⟨c, k1, k2, k3⟩ := hm0.K
      obtain ⟨q1, q2, q3⟩ := (k3 i (by omega)).1 S hk
      have key := lpI (f := fun s : Int32 × Int32 × Mm => bd_X12_again_43 s.1 s.2.1 s.2.2) (sd := fun s : Int32 × Int32 × Mm => sd_X12_again_43 s.1 s.2.1 s.2.2) (dd := fun s : Int32 × Int32 × Mm => s.2.2)
        (I := fun a s => ∃ μ', s = (nI i, nI a, μ') ∧ a ≤ 24 ∧ Fr [52] (upI μ1 49 0 0) μ' ∧ (∀ j, j < a → μ'.1 52 j = μ1.1 77 (24 * i + j)))
        (R := fun z => Fr [52] (upI μ1 49 0 0) z ∧ (∀ j, j < 24 → z.1 52 j = μ1.1 77 (24 * i + j))) 24 (by omega) ?_ (s0 := (nI i, 0, upI μ1 49 0 0)) ⟨_, rfl, Nat.zero_le _, Fr.rfl, fun j hj => absurd hj (by omega)⟩
      · obtain ⟨y1, y2, y3⟩ := key
        have e4 : p_X12_again (nI i) μ1 ∧ v_X12_again (nI i) μ1 = 1 ∧ FlM 52 (putF (s_F σ) S) (e_X12_again (nI i) μ1) ∧ UnM [] (e_X12_again (nI i) μ1) := by
          unfold p_X12_again v_X12_again e_X12_again
          simp only [forall_eq]
          rw [in_B s0 s2, hx, nI_clamp (by omega), q2, k2]
          simp only [if_true, q1, show ¬ ((1 : Int32) = 0) from by decide, if_false]
          generalize whl _ _ FU _ = z at y2 y3 ⊢
          refine ⟨fun _ => ⟨vp_in_nI (by omega) (by omega), fun _ => ⟨vp_in_nI (by omega) (by omega), fun _ => y1⟩⟩, trivial, ?_, by simp, by rw [rI, if_pos ⟨rfl, rfl⟩]; rfl, fun j hj => absurd hj (by simp)⟩
          refine FlM.up ?_ (by omega)
          refine RwM.fl (q3.same (fun j hj => by rw [Nat.zero_add, y3 j hj, rIc (by omega)])) hm0.F.1 ?_ (fun j hj => ?_)
          · rw [y2.1 49 (by simp)]; exact hm0.F.sz
          · rw [y2.1 51 (by simp)]; exact hm0.F.w hj
        refine ⟨e1.2.2, e4.1, e4.2.1.symm, ?_⟩
        have hM : MS (putF (s_F σ) S, s_r σ, s_T σ, [], s_K σ, s_S σ, s_H σ) (e_X12_again (nI i) μ1) :=
          ⟨e4.2.2.1, hm1.r.fs fM (by decide), hm1.T.fs fM (by decide), e4.2.2.2, hm1.K.fs fM (by decide), hm1.S.fs fM (by decide), hm1.H.fs fM (by decide)⟩
        refine Both ⟨ok, hc, hm, tc, tm⟩ ?_ hC tc1 hM (tm1.fs fM (by decide)) fM (by decide)
        obtain ⟨h1, h2, h3, h4, h5, h6, h7⟩ := ok
        exact ⟨RgF_put h1 (h5 i S (by omega) hk), h2, h3, fun S hS => absurd hS (by show S ∉ []; simp), h5, h6, h7⟩
      · rintro a _ ha ⟨μ', rfl, hi2, hf, hcc⟩
        dsimp only
        unfold sd_X12_again_43 bd_X12_again_43
        have e0 : (24 : Int32) * nI i + nI a = nI (24 * i + a) := by rw [show (24 : Int32) = nI 24 from rfl, nI_mul, nI_add]
        rw [e0, nI_1, show (24 : Int32) = nI 24 from rfl]
        simp only [nI_leI (show 24 < 2 ^ 31 by omega) (show a < 2 ^ 31 by omega), nI_clamp (show a < 2 ^ 31 by omega), nI_clamp (show 24 * i + a < 2 ^ 31 by omega)]
        rcases Nat.lt_or_ge a 24 with z | z
        · rw [if_neg (by omega)]
          have g : μ'.1 77 = μ1.1 77 := by rw [hf.1 77 (by simp), rIc (by omega)]
          refine ⟨fun _ => ⟨vp_in_nI (by omega) (by omega), vp_in_nI (by omega) (by omega)⟩, .inl ⟨_, rfl, z, _, rfl, by omega, hf.up (by simp), fun j hj => ?_⟩⟩
          rw [rI, g]
          by_cases e : j = a
          · subst e; rw [if_pos ⟨rfl, rfl⟩]
          · rw [if_neg (by omega)]; exact hcc j (by omega)
        · have e : a = 24 := by omega
          subst e
          rw [if_pos (by omega)]
          exact ⟨fun y => absurd (Nat.le_refl _) y, .inr ⟨_, rfl, hf, hcc⟩⟩
theorem call_forget (h : Sim σ R μ) : Call True True (v_X11_forget μ) (v_X12_forget (e_X11_forget μ)) (e_X12_forget (e_X11_forget μ)) := by
  obtain ⟨ok, hc, hm, tc, tm⟩ := h
  have fC := fr_X11_forget μ
  have hm1 := hm.frC fC (by decide)
  have tm1 := tm.frC fC (by decide)
  have tc1 := tc.fr fC (by decide)
  have fM := fs_X12_forget (e_X11_forget μ)
  have hC : CS (s_F σ, s_r σ, s_T σ, s_U σ, s_K σ, [], s_H σ) (e_X11_forget μ) := by
    refine ⟨hc.F.fr fC (by decide), hc.r.fr fC (by decide), hc.T.fr fC (by decide), hc.U.fr fC (by decide), hc.K.fr fC (by decide), ?_, hc.H.fr fC (by decide)⟩
    unfold e_X11_forget
    exact ⟨by simp [s_S], by rw [rI, if_pos ⟨rfl, rfl⟩]; rfl, fun j hj => absurd hj (by simp [s_S])⟩
  have hM : MS (s_F σ, s_r σ, s_T σ, s_U σ, s_K σ, [], s_H σ) (e_X12_forget (e_X11_forget μ)) := by
    refine ⟨hm1.F.fs fM (by decide), hm1.r.fs fM (by decide), hm1.T.fs fM (by decide), hm1.U.fs fM (by decide), hm1.K.fs fM (by decide), ?_, hm1.H.fs fM (by decide)⟩
    unfold e_X12_forget
    exact ⟨by simp [s_S], by rw [rI, if_pos ⟨rfl, rfl⟩]; rfl, fun j hj => absurd hj (by simp [s_S])⟩
  refine ⟨trivial, trivial, ?_, Both (σ' := (s_F σ, s_r σ, s_T σ, s_U σ, s_K σ, [], s_H σ)) ⟨ok, hc, hm, tc, tm⟩ ⟨ok.1, ok.2.1, ok.2.2.1, ok.2.2.2.1, ok.2.2.2.2.1, fun x hx => absurd hx (by show x ∉ []; simp), ok.2.2.2.2.2.2⟩ hC tc1 hM (tm1.fs fM (by decide)) fM (by decide)⟩
  unfold v_X11_forget v_X12_forget
  rw [hc.S.2.1]
  dsimp only
  rw [rI, if_neg (by omega), hm1.S.2.1]
theorem call_denies (h : Sim σ R μ) : Call True True (v_X11_denies μ) (v_X12_denies (e_X11_denies μ)) (e_X12_denies (e_X11_denies μ)) := by
  obtain ⟨ok, hc, hm, tc, tm⟩ := h
  have fC := fr_X11_denies μ
  have hm1 := hm.frC fC (by decide)
  have tm1 := tm.frC fC (by decide)
  have tc1 := tc.fr fC (by decide)
  have fM := fs_X12_denies (e_X11_denies μ)
  have hC : CS (s_F σ, s_r σ, s_T σ, s_U σ, s_K σ, s_S σ, []) (e_X11_denies μ) := by
    refine ⟨hc.F.fr fC (by decide), hc.r.fr fC (by decide), hc.T.fr fC (by decide), hc.U.fr fC (by decide), hc.K.fr fC (by decide), hc.S.fr fC (by decide), ?_⟩
    unfold e_X11_denies
    exact ⟨by simp [s_H], by rw [rI, if_pos ⟨rfl, rfl⟩]; rfl, fun j hj => absurd hj (by simp [s_H])⟩
  have hM : MS (s_F σ, s_r σ, s_T σ, s_U σ, s_K σ, s_S σ, []) (e_X12_denies (e_X11_denies μ)) := by
    refine ⟨hm1.F.fs fM (by decide), hm1.r.fs fM (by decide), hm1.T.fs fM (by decide), hm1.U.fs fM (by decide), hm1.K.fs fM (by decide), hm1.S.fs fM (by decide), ?_⟩
    unfold e_X12_denies
    exact ⟨by simp [s_H], by rw [rI, if_pos ⟨rfl, rfl⟩]; rfl, fun j hj => absurd hj (by simp [s_H])⟩
  refine ⟨trivial, trivial, ?_, Both (σ' := (s_F σ, s_r σ, s_T σ, s_U σ, s_K σ, s_S σ, [])) ⟨ok, hc, hm, tc, tm⟩ ⟨ok.1, ok.2.1, ok.2.2.1, ok.2.2.2.1, ok.2.2.2.2.1, ok.2.2.2.2.2.1, fun x hx => absurd hx (by show x ∉ []; simp)⟩ hC tc1 hM (tm1.fs fM (by decide)) fM (by decide)⟩
  unfold v_X11_denies v_X12_denies
  rw [hc.H.2.1]
  dsimp only
  rw [rI, if_neg (by omega), hm1.H.2.1]
theorem call_count (h : Sim σ R μ) (x : Int32) : Call (p_X11_count x μ) (p_X12_count x μ) (v_X11_count x μ) (v_X12_count x μ) (e_X12_count x μ) := by
  have hs := h
  obtain ⟨ok, hc, hm, tc, tm⟩ := h
  have hm0 := hm.th 0
  have tm0 := tm.th 0
  refine ⟨?_, ?_, ?_, ?_⟩
  · unfold p_X11_count
    exact fun _ _ _ _ => ⟨fun _ => (C_moment hc.F).1, fun _ _ => (C_loadOf hc.F _).1⟩
  · unfold p_X12_count
    simp only [forall_eq]
    exact fun _ _ _ _ => ⟨fun _ => (M_moment hm0.F).1, fun _ _ => (M_loadOf hm0.F _).1⟩
  · unfold v_X11_count v_X12_count
    dsimp only
    rw [C_present hc.F, M_here hm0.F, (C_moment hc.F).2, (M_moment hm0.F).2, (C_loadOf hc.F _).2, (M_loadOf hm0.F _).2, cl22, cl23, hc.F.sz, hc.F.t, hc.F.z, hc.S.2.1, hc.H.2.1, hc.U.2.1, tc.2.1, hc.T.2.1, hm0.F.sz, hm0.F.t, hm0.F.z, hm0.S.2.1, hm0.H.2.1, hm0.U.2.1, tm0.2.1, hm0.T.2.1]
    have e : lodI (s_F σ) (preA (s_F σ)) = lodO (s_F σ) (v_X12_all (upI μ 49 0 0)) := by
      unfold lodI lodO
      refine sm_congr (fun i hi => ?_)
      have hn := hc.F.1
      rw [bt_pre hn (by omega), M_all hm0.F (by omega)]
    rw [e]
  · exact Both hs ok hc tc hm0 tm0 (Fs.upF (S := [1000]) Fs.rfl (by simp)) (by decide)
theorem call_end (h : Sim σ R μ) (x : Int32) : Call True True (v_X11_end x μ) (v_X12_end x (e_X11_end x μ)) (e_X12_end x (e_X11_end x μ)) := by
  obtain ⟨ok, hc, hm, tc, tm⟩ := h
  have fC := fr_X11_end x μ
  have hm1 := hm.frC fC (by decide)
  have tm1 := tm.frC fC (by decide)
  have tc1 := tc.fr fC (by decide)
  have fM := fs_X12_end x (e_X11_end x μ)
  have hl := hc.T.1
  have tl : (nI (s_T σ).length).toInt = (s_T σ).length := nI_toInt (by omega)
  have tl6 : (nI (s_T σ).length).toInt64.toInt = (s_T σ).length := by rw [Int32.toInt_toInt64, tl]
  have g1 : v_X11_end x μ = (if inB x 0 (s_T σ).length then 1 else 0) ∧ e_X11_end x μ = if inB x 0 (s_T σ).length then upI μ 25 1 x else μ := by
    unfold v_X11_end e_X11_end v_X9_cut e_X9_cut
    rw [hc.T.2.1, ite_in t0 tl, ite_in t0 tl]
    exact ⟨rfl, rfl⟩
  have hT : TxC ((s_T σ).take (if inB x 0 (s_T σ).length then x.toNatClampNeg else 80)) (e_X11_end x μ) := by
    rw [g1.2]
    cases hx : inB x 0 (s_T σ).length
    · simp only [Bool.false_eq_true, if_false]
      rw [List.take_of_length_le hl]; exact hc.T
    · simp only [if_true]
      obtain ⟨i, hi, rfl⟩ := inB_nI hx (by omega)
      rw [nI_clamp (by omega)]
      have e : ((s_T σ).take i).length = i := by simp; omega
      refine ⟨by omega, by rw [rI, if_pos ⟨rfl, rfl⟩, e], fun j hj => ?_⟩
      rw [rIc (by omega), hc.T.2.2 j (by omega)]
      congr 1
      simp [List.getD, List.getElem?_take, show j < i by omega]
  refine ⟨trivial, trivial, ?_, ?_⟩
  · rw [g1.1]
    unfold v_X12_end
    dsimp only
    rw [(hm1.th 0).T.2.1, in_B s0 tl6]
    cases inB x 0 (s_T σ).length <;> rfl
  · have hC : CS (s_F σ, s_r σ, (s_T σ).take (if inB x 0 (s_T σ).length then x.toNatClampNeg else 80), s_U σ, s_K σ, s_S σ, s_H σ) (e_X11_end x μ) :=
      ⟨hc.F.fr fC (by decide), hc.r.fr fC (by decide), hT, hc.U.fr fC (by decide), hc.K.fr fC (by decide), hc.S.fr fC (by decide), hc.H.fr fC (by decide)⟩
    have hT2 : TxM ((s_T σ).take (if inB x 0 (s_T σ).length then x.toNatClampNeg else 80)) (e_X12_end x (e_X11_end x μ)) := by
      unfold e_X12_end
      dsimp only
      rw [(hm1.th 0).T.2.1, in_B s0 tl6]
      cases hx : inB x 0 (s_T σ).length
      · simp only [Bool.false_eq_true, if_false, if_true]
        rw [List.take_of_length_le hl]; exact (hm1.th 0).T
      · simp only [if_true, show ¬ ((1 : Int32) = 0) from by decide, if_false]
        obtain ⟨i, hi, rfl⟩ := inB_nI hx (by omega)
        rw [nI_clamp (by omega)]
        have e : ((s_T σ).take i).length = i := by simp; omega
        refine ⟨by omega, by rw [rI, if_pos ⟨rfl, rfl⟩, e], fun j hj => ?_⟩
        rw [rIc (by omega), rIc (by omega), hm1.T.2.2 j (by omega)]
        congr 1
        simp [List.getD, List.getElem?_take, show j < i by omega]
    have hM : MS (s_F σ, s_r σ, (s_T σ).take (if inB x 0 (s_T σ).length then x.toNatClampNeg else 80), s_U σ, s_K σ, s_S σ, s_H σ) (e_X12_end x (e_X11_end x μ)) :=
      ⟨hm1.F.fs fM (by decide), hm1.r.fs fM (by decide), hT2, hm1.U.fs fM (by decide), hm1.K.fs fM (by decide), hm1.S.fs fM (by decide), hm1.H.fs fM (by decide)⟩
    refine Both (σ' := (s_F σ, s_r σ, (s_T σ).take (if inB x 0 (s_T σ).length then x.toNatClampNeg else 80), s_U σ, s_K σ, s_S σ, s_H σ)) ⟨ok, hc, hm, tc, tm⟩ ⟨ok.1, ok.2.1, fun i => ?_, ok.2.2.2⟩ hC tc1 hM (tm1.fs fM (by decide)) fM (by decide)
    show ((s_T σ).take _).getD i 0 < 256
    have := ok.2.2.1 i
    rw [List.getD_eq_getElem?_getD, List.getElem?_take]
    by_cases q : i < (if inB x 0 (s_T σ).length then x.toNatClampNeg else 80)
    · rw [if_pos q]; rw [List.getD_eq_getElem?_getD] at this; exact this
    · rw [if_neg q]; simp
end CB

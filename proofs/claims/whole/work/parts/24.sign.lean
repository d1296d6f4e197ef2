/-! sign, sheet -/
theorem and255 (x : Int32) : ∃ m, m < 256 ∧ x &&& 255 = nI m := by
  refine ⟨(x.toBitVec &&& 255#32).toNat, ?_, ?_⟩
  · rw [BitVec.toNat_and]
    exact Nat.lt_of_le_of_lt Nat.and_le_right (by decide)
  · apply Int32.toBitVec_inj.mp
    rw [Int32.toBitVec_and]
    show x.toBitVec &&& 255#32 = BitVec.ofNat 32 _
    rw [BitVec.ofNat_toNat, BitVec.setWidth_eq]
def byA (v : Int32) (i : Nat) : Nat := ((v >>> (nI (24 - 8 * i) &&& 31)) &&& 255).toNatClampNeg
theorem byA_eq (v : Int32) (i : Nat) : (v >>> (nI (24 - 8 * i) &&& 31)) &&& 255 = nI (byA v i) ∧ byA v i < 256 := by
  obtain ⟨m, hm, e⟩ := and255 (v >>> (nI (24 - 8 * i) &&& 31))
  unfold byA
  rw [e, nI_clamp (by omega)]
  exact ⟨rfl, hm⟩
theorem byC (v : Int32) {n : Nat} (hn : n ≤ 24) : (v.toUInt32 >>> ((nI n).toUInt32 &&& Int32.toUInt32 31)).toInt32 &&& 255 = (v >>> (nI n &&& 31)) &&& 255 := by
  apply b_ext
  intro j hj
  rw [b_and, b_and, b_255, b_ushr n (by omega), b_sshr n (by omega) v hj]
  by_cases q : j < 8
  · rw [if_pos (by omega)]
  · simp [q]
def xs (i : Nat) : Int32 := 24 - 8 * nI i
theorem xs_f : ∀ i, i < 4 → ¬ (xs i < 0) ∧ xs i + (-8) = xs (i + 1) ∧ xs i = nI (24 - 8 * i) := by decide +kernel
theorem xs_4 : xs 4 < 0 := by decide +kernel
theorem i4 : ∀ i, i < 4 → (24 : Int32) - 8 * nI i = nI (24 - 8 * i) := by decide +kernel
def sgT (T : List Nat) (v : Int32) : List Nat := T ++ [byA v 0, byA v 1, byA v 2, byA v 3]
theorem sgT_at {T : List Nat} {v : Int32} {i : Nat} (hi : i < T.length + 4) : (sgT T v).getD i 0 = if i < T.length then T.getD i 0 else byA v (i - T.length) := by
  unfold sgT
  by_cases q : i < T.length
  · rw [if_pos q]; simp [List.getD, List.getElem?_append, q]
  · rw [if_neg q]
    obtain ⟨j, rfl⟩ : ∃ j, i = T.length + j := ⟨i - T.length, by omega⟩
    have hj : j = 0 ∨ j = 1 ∨ j = 2 ∨ j = 3 := by omega
    rcases hj with rfl | rfl | rfl | rfl <;> simp [List.getD, List.getElem?_append]
section SG
variable {σ : ST} {R : List Int64} {μ : Mm}
def sgR (σ : ST) (v : Int32) : List Nat := if (s_T σ).length + 4 ≤ 80 then sgT (s_T σ) v else s_T σ
theorem C_sign (hc : CS σ μ) (v : Int32) : p_X11_sign v μ ∧ v_X11_sign v μ = (if (s_T σ).length + 4 ≤ 80 then nI ((s_T σ).length + 4) else -1) ∧ TxC (sgR σ v) (e_X11_sign v μ) := by
  obtain ⟨h1, h2, h3⟩ := hc.T
  have e4 : nI (s_T σ).length + 4 = nI ((s_T σ).length + 4) := by rw [show (4 : Int32) = nI 4 from rfl, nI_add]
  unfold p_X11_sign v_X11_sign e_X11_sign p_X9_addFour v_X9_addFour e_X9_addFour sgR
  rw [h2, e4, show (80 : Int32) = nI 80 from rfl]
  simp only [nI_leI (show (s_T σ).length + 4 < 2 ^ 31 by omega) (show 80 < 2 ^ 31 by omega)]
  by_cases q : (s_T σ).length + 4 ≤ 80
  · have key := lpI (f := fun s : Int32 × Int32 × Mm => bd_X9_addFour_16 s.1 s.2.1 s.2.2) (sd := fun s : Int32 × Int32 × Mm => sd_X9_addFour_16 s.1 s.2.1 s.2.2) (dd := fun s : Int32 × Int32 × Mm => s.2.2)
      (I := fun i s => ∃ μ', s = (v, xs i, μ') ∧ i ≤ 4 ∧ μ'.1 25 1 = nI ((s_T σ).length + i) ∧ (∀ j, j < (s_T σ).length → μ'.1 26 j = nI ((s_T σ).getD j 0)) ∧ (∀ j, j < i → μ'.1 26 ((s_T σ).length + j) = nI (byA v j)))
      (R := fun z => z.1 25 1 = nI ((s_T σ).length + 4) ∧ (∀ j, j < (s_T σ).length → z.1 26 j = nI ((s_T σ).getD j 0)) ∧ (∀ j, j < 4 → z.1 26 ((s_T σ).length + j) = nI (byA v j))) 4 (by omega) ?_ (s0 := (v, 24, μ)) ⟨μ, rfl, Nat.zero_le _, h2, h3, fun j hj => absurd hj (by omega)⟩
    · obtain ⟨k1, k2, k3, k4⟩ := key
      simp only [q, if_true, show ¬ ((1 : Int32) = 0) from by decide, if_false]
      generalize whl _ _ FU _ = z at k2 k3 k4 ⊢
      refine ⟨fun _ => k1, k2, by simp [sgT]; omega, by rw [k2]; simp [sgT], fun i hi => ?_⟩
      have hi' : i < (s_T σ).length + 4 := by simpa [sgT] using hi
      rw [sgT_at hi']
      by_cases q2 : i < (s_T σ).length
      · rw [if_pos q2]; exact k3 i q2
      · rw [if_neg q2, ← k4 (i - (s_T σ).length) (by omega), show (s_T σ).length + (i - (s_T σ).length) = i by omega]
    · rintro i _ hi ⟨μ', rfl, hi2, g1, g2, g3⟩
      dsimp only
      unfold sd_X9_addFour_16 bd_X9_addFour_16
      rcases Nat.lt_or_ge i 4 with z | z
      · obtain ⟨f1, f2, f3⟩ := xs_f i z
        rw [if_neg f1, f2, g1, f3, byC v (by omega), (byA_eq v i).1, nI_clamp (by omega)]
        have e8 : vp_nar .char ((Int32.toUInt32 (nI (byA v i)) % 65536).toInt32) = nI (byA v i) := by
          rw [pk_vc, ← (byA_eq v i).1]; exact sc_c2 _
        rw [e8]
        dsimp only
        rw [rIc (show 25 ≠ 26 by omega), g1, nI_1]
        refine ⟨fun _ => vp_in_nI (by omega) (by omega), .inl ⟨_, rfl, z, _, rfl, by omega, by rw [rI, if_pos ⟨rfl, rfl⟩, Nat.add_assoc], fun j hj => ?_, fun j hj => ?_⟩⟩
        · rw [rIc (by omega), rI, if_neg (by omega)]; exact g2 j hj
        · rw [rIc (by omega), rI]
          by_cases e : j = i
          · subst e; rw [if_pos ⟨rfl, rfl⟩]
          · rw [if_neg (by omega)]; exact g3 j (by omega)
      · have e : i = 4 := by omega
        subst e
        rw [if_pos xs_4]
        exact ⟨fun y => absurd xs_4 y, .inr ⟨_, rfl, g1, g2, g3⟩⟩
  · simp only [q, if_false, if_true]
    exact ⟨fun z => absurd z id, trivial, hc.T⟩
theorem M_sign (hm : MS σ μ) (v : Int32) : p_X12_sign v μ ∧ v_X12_sign v μ = (if (s_T σ).length + 4 ≤ 80 then nI ((s_T σ).length + 4) else -1) ∧ TxM (sgR σ v) (e_X12_sign v μ) := by
  have hm0 := hm.th 0
  obtain ⟨h1, h2, h3⟩ := hm0.T
  unfold p_X12_sign v_X12_sign e_X12_sign sgR
  simp only [forall_eq]
  generalize upI μ 49 0 0 = μ1 at *
  rw [h2, show (76 : Int32) = nI 76 from rfl]
  simp only [nI_leI (show (s_T σ).length < 2 ^ 31 by omega) (show 76 < 2 ^ 31 by omega)]
  by_cases q : (s_T σ).length + 4 ≤ 80
  · have q' : (s_T σ).length ≤ 76 := by omega
    have key := lpI (f := fun s : Int32 × Int32 × Mm => bd_X12_sign_18 s.1 s.2.1 s.2.2) (sd := fun s : Int32 × Int32 × Mm => sd_X12_sign_18 s.1 s.2.1 s.2.2) (dd := fun s : Int32 × Int32 × Mm => s.2.2)
      (I := fun i s => ∃ μ', s = (v, nI i, μ') ∧ i ≤ 4 ∧ Fr [54] μ1 μ' ∧ (∀ j, j < (s_T σ).length → μ'.1 54 j = nI ((s_T σ).getD j 0)) ∧ (∀ j, j < i → μ'.1 54 ((s_T σ).length + j) = nI (byA v j)))
      (R := fun z => Fr [54] μ1 z ∧ (∀ j, j < (s_T σ).length → z.1 54 j = nI ((s_T σ).getD j 0)) ∧ (∀ j, j < 4 → z.1 54 ((s_T σ).length + j) = nI (byA v j))) 4 (by omega) ?_ (s0 := (v, 0, μ1)) ⟨μ1, rfl, Nat.zero_le _, Fr.rfl, h3, fun j hj => absurd hj (by omega)⟩
    · obtain ⟨k1, k2, k3, k4⟩ := key
      simp only [q, q', if_true]
      generalize whl _ _ FU _ = z at k2 k3 k4 ⊢
      have e4 : z.1 49 9 + 4 = nI ((s_T σ).length + 4) := by rw [k2.1 49 (by simp), h2, show (4 : Int32) = nI 4 from rfl, nI_add]
      rw [e4]
      refine ⟨fun _ => k1, by rw [rI, if_pos ⟨rfl, rfl⟩], by simp [sgT]; omega, by rw [rI, if_pos ⟨rfl, rfl⟩]; simp [sgT], fun i hi => ?_⟩
      have hi' : i < (s_T σ).length + 4 := by simpa [sgT] using hi
      rw [sgT_at hi', rIc (by omega)]
      by_cases q2 : i < (s_T σ).length
      · rw [if_pos q2]; exact k3 i q2
      · rw [if_neg q2, ← k4 (i - (s_T σ).length) (by omega), show (s_T σ).length + (i - (s_T σ).length) = i by omega]
    · rintro i _ hi ⟨μ', rfl, hi2, g1, g2, g3⟩
      dsimp only
      unfold sd_X12_sign_18 bd_X12_sign_18
      have e0 : μ'.1 49 9 + nI i = nI ((s_T σ).length + i) := by rw [g1.1 49 (by simp), h2, nI_add]
      rw [e0, show (4 : Int32) = nI 4 from rfl]
      simp only [nI_leI (show 4 < 2 ^ 31 by omega) (show i < 2 ^ 31 by omega), nI_1, nI_clamp (show (s_T σ).length + i < 2 ^ 31 by omega)]
      rcases Nat.lt_or_ge i 4 with z | z
      · rw [if_neg (by omega), i4 i z, (byA_eq v i).1]
        refine ⟨fun _ => vp_in_nI (by omega) (by omega), .inl ⟨_, rfl, z, _, rfl, by omega, g1.up (by simp), fun j hj => ?_, fun j hj => ?_⟩⟩
        · rw [rI, if_neg (by omega)]; exact g2 j hj
        · rw [rI]
          by_cases e : j = i
          · subst e; rw [if_pos ⟨rfl, rfl⟩]
          · rw [if_neg (by omega)]; exact g3 j (by omega)
      · have e : i = 4 := by omega
        subst e
        rw [if_pos (by omega)]
        exact ⟨fun y => absurd (Nat.le_refl _) y, .inr ⟨_, rfl, g1, g2, g3⟩⟩
  · have q' : ¬ (s_T σ).length ≤ 76 := by omega
    simp only [q, q', if_false]
    exact ⟨fun z => absurd z id, trivial, hm0.T⟩
theorem call_sign (h : Sim σ R μ) (v : Int32) : Call (p_X11_sign v μ) (p_X12_sign v (e_X11_sign v μ)) (v_X11_sign v μ) (v_X12_sign v (e_X11_sign v μ)) (e_X12_sign v (e_X11_sign v μ)) := by
  obtain ⟨ok, hc, hm, tc, tm⟩ := h
  have fC := fr_X11_sign v μ
  have hm1 := hm.frC fC (by decide)
  have tm1 := tm.frC fC (by decide)
  have tc1 := tc.fr fC (by decide)
  have fM := fs_X12_sign v (e_X11_sign v μ)
  obtain ⟨a1, a2, a3⟩ := C_sign hc v
  obtain ⟨b1, b2, b3⟩ := M_sign hm1 v
  refine ⟨a1, b1, a2.trans b2.symm, Both (σ' := (s_F σ, s_r σ, sgR σ v, s_U σ, s_K σ, s_S σ, s_H σ)) ⟨ok, hc, hm, tc, tm⟩ ⟨ok.1, ok.2.1, fun i => ?_, ok.2.2.2.1, ok.2.2.2.2.1, ok.2.2.2.2.2.1, ok.2.2.2.2.2.2⟩ ⟨hc.F.fr fC (by decide), hc.r.fr fC (by decide), a3, hc.U.fr fC (by decide), hc.K.fr fC (by decide), hc.S.fr fC (by decide), hc.H.fr fC (by decide)⟩ tc1 ⟨hm1.F.fs fM (by decide), hm1.r.fs fM (by decide), b3, hm1.U.fs fM (by decide), hm1.K.fs fM (by decide), hm1.S.fs fM (by decide), hm1.H.fs fM (by decide)⟩ (tm1.fs fM (by decide)) fM (by decide)⟩
  show (sgR σ v).getD i 0 < 256
  unfold sgR
  by_cases q : (s_T σ).length + 4 ≤ 80
  · rw [if_pos q]
    rcases Nat.lt_or_ge i ((s_T σ).length + 4) with z | z
    · rw [sgT_at z]
      by_cases q2 : i < (s_T σ).length
      · rw [if_pos q2]; exact ok.2.2.1 i
      · rw [if_neg q2]; exact (byA_eq v _).2
    · simp [sgT, List.getD, List.getElem?_eq_none (show (s_T σ ++ [byA v 0, byA v 1, byA v 2, byA v 3]).length ≤ i by simpa using z)]
  · rw [if_neg q]; exact ok.2.2.1 i
/-! sheet -/
def entC (w v : Int32) : Int32 := v_X11_entryOf w v
theorem clampE (t : Int32) : (if 1 < (if t < 9 then t else 9) then (if t < 9 then t else 9) else 1) = (if (if 1 < t then t else 1) < 9 then (if 1 < t then t else 1) else 9) ∧ (1 ≤ (if (if 1 < t then t else 1) < 9 then (if 1 < t then t else 1) else 9).toInt ∧ (if (if 1 < t then t else 1) < 9 then (if 1 < t then t else 1) else 9).toInt ≤ 9) := by
  have a1 := fa_lt 1 t
  have a2 := fa_lt t 9
  rw [t1] at a1
  rw [t9] at a2
  by_cases q1 : 1 < t
  · by_cases q2 : t < 9
    · simp only [q1, q2, if_true]
      exact ⟨trivial, by have := a1.mp q1; omega, by have := a2.mp q2; omega⟩
    · simp only [q1, q2, if_true, if_false]
      exact ⟨by decide, by decide⟩
  · have q2 : t < 9 := a2.mpr (by have : ¬ 1 < t.toInt := fun z => q1 (a1.mpr z); omega)
    simp only [q1, q2, if_true, if_false]
    exact ⟨by decide, by decide⟩
def shA (w n f s : Int32) (i : Nat) : Int32 := if w = 3 then 1 else if nI i < n then entC w (f + nI i * s) else 1
theorem shA_rg (w n f s : Int32) (i : Nat) : 1 ≤ (shA w n f s i).toInt ∧ (shA w n f s i).toInt ≤ 9 := by
  unfold shA entC v_X11_entryOf
  by_cases q : w = 3
  · rw [if_pos q]; decide
  · rw [if_neg q]
    by_cases q2 : nI i < n
    · rw [if_pos q2]; exact (clampE _).2
    · rw [if_neg q2]; decide
def shF (F : FL) (w n f s : Int32) : FL := (f_n F, (fun i => if i < f_n F then shA w n f s i else f_w F i), f_h F, f_p F, f_k F, f_o F, f_t F, f_z F)
def shok (w n : Int32) : Bool := inB w 0 3 && decide (n ≤ 7)
def shok2 (w n : Int32) : Bool := decide (w = 3) || decide (0 ≤ n)
def shV (F : FL) (w n f s : Int32) : Int32 := if shok w n then if shok2 w n then if w = 3 then -3 else sm (fun i => shA w n f s i) (f_n F) else -2 else -1
def shG (F : FL) (w n f s : Int32) : FL := if shok w n then if shok2 w n then shF F w n f s else F else F
theorem RgF_sh {F : FL} (h : RgF F) (w n f s : Int32) : RgF (shG F w n f s) := by
  unfold shG
  cases shok w n
  · exact h
  · cases shok2 w n
    · exact h
    · refine ⟨h.1, fun i hi => ⟨?_, (h.2.1 i hi).2⟩, fun i hi => ?_, h.2.2.2.1, fun i h1 h2 => ⟨?_, (h.2.2.2.2 i h1 h2).2⟩⟩
      · show 0 ≤ (if i < f_n F then shA w n f s i else f_w F i).toInt ∧ (if i < f_n F then shA w n f s i else f_w F i).toInt ≤ 9
        have := shA_rg w n f s i
        by_cases q : i < f_n F
        · rw [if_pos q]; omega
        · rw [if_neg q]; exact (h.2.1 i hi).1
      · show 1 ≤ (if i < f_n F then shA w n f s i else f_w F i).toInt
        have hi' : i < f_n F := hi
        rw [if_pos hi']; exact (shA_rg w n f s i).1
      · show (if i < f_n F then shA w n f s i else f_w F i) = 0
        have h1' : f_n F ≤ i := h1
        rw [if_neg (by omega)]; exact (h.2.2.2.2 i h1 h2).1
theorem shG_n (F : FL) (w n f s : Int32) : f_n (shG F w n f s) = f_n F := by
  unfold shG; (repeat' split) <;> rfl
theorem shG_row (F : FL) (w n f s : Int32) : rowF (shG F w n f s) = rowF F := by
  unfold shG; (repeat' split) <;> rfl
theorem C_shl {F : FL} (h : FlC 1 F μ) (w n f s : Int32) : whP (fun s : Int32 × Int32 × Int32 × Int32 × Int32 × Int32 × Mm => bd_X11_sheet_47 s.1 s.2.1 s.2.2.1 s.2.2.2.1 s.2.2.2.2.1 s.2.2.2.2.2.1 s.2.2.2.2.2.2) (fun s : Int32 × Int32 × Int32 × Int32 × Int32 × Int32 × Mm => sd_X11_sheet_47 s.1 s.2.1 s.2.2.1 s.2.2.2.1 s.2.2.2.2.1 s.2.2.2.2.2.1 s.2.2.2.2.2.2) FU (w, f, s, (if w = 3 then 0 else n), 0, 0, μ) ∧ (fun z : Int32 × Int32 × Mm => z.1 = w ∧ z.2.1 = sm (fun i => shA w n f s i) (f_n F) ∧ FlC 1 (shF F w n f s) z.2.2) (whl (fun s : Int32 × Int32 × Int32 × Int32 × Int32 × Int32 × Mm => bd_X11_sheet_47 s.1 s.2.1 s.2.2.1 s.2.2.2.1 s.2.2.2.2.1 s.2.2.2.2.2.1 s.2.2.2.2.2.2) (fun s : Int32 × Int32 × Int32 × Int32 × Int32 × Int32 × Mm => (0, 0, s.2.2.2.2.2.2)) FU (w, f, s, (if w = 3 then 0 else n), 0, 0, μ)) := by
  have hn := h.1
  refine lpI (f := fun s : Int32 × Int32 × Int32 × Int32 × Int32 × Int32 × Mm => bd_X11_sheet_47 s.1 s.2.1 s.2.2.1 s.2.2.2.1 s.2.2.2.2.1 s.2.2.2.2.2.1 s.2.2.2.2.2.2) (sd := fun s : Int32 × Int32 × Int32 × Int32 × Int32 × Int32 × Mm => sd_X11_sheet_47 s.1 s.2.1 s.2.2.1 s.2.2.2.1 s.2.2.2.2.1 s.2.2.2.2.2.1 s.2.2.2.2.2.2) (dd := fun s : Int32 × Int32 × Int32 × Int32 × Int32 × Int32 × Mm => (0, 0, s.2.2.2.2.2.2))
    (I := fun i s' => ∃ μ', s' = (w, f, s, (if w = 3 then 0 else n), sm (fun i => shA w n f s i) i, nI i, μ') ∧ i ≤ f_n F ∧ Fr [2] μ μ' ∧ ∀ j, j < 7 → μ'.1 2 j = if j < i then shA w n f s j else f_w F j)
    (R := fun z : Int32 × Int32 × Mm => z.1 = w ∧ z.2.1 = sm (fun i => shA w n f s i) (f_n F) ∧ FlC 1 (shF F w n f s) z.2.2) (f_n F) (by omega) ?_ (s0 := (w, f, s, (if w = 3 then 0 else n), 0, 0, μ)) ⟨μ, rfl, Nat.zero_le _, Fr.rfl, fun j hj => by rw [if_neg (by omega)]; exact h.w hj⟩
  rintro i _ hi ⟨μ', rfl, hi2, hf, hw⟩
  dsimp only
  unfold sd_X11_sheet_47 bd_X11_sheet_47
  dsimp only
  have hsz : μ'.1 1 0 = nI (f_n F) := by rw [hf.1 1 (by simp)]; exact h.sz
  rw [hsz, nI_clamp (by omega), nI_1]
  simp only [nI_leI (show f_n F < 2 ^ 31 by omega) (show i < 2 ^ 31 by omega)]
  rcases Nat.lt_or_ge i (f_n F) with z | z
  · have e : (if (if w = 3 then 0 else n) ≤ nI i then (1 : Int32) else v_X11_entryOf w (f + nI i * s)) = shA w n f s i := by
      unfold shA entC
      by_cases q : w = 3
      · rw [if_pos q, if_pos q, if_pos (nI_pos' (by omega))]
      · rw [if_neg q, if_neg q]
        by_cases q2 : nI i < n
        · rw [if_pos q2, if_neg (by rw [fa_le]; rw [fa_lt] at q2; omega)]
        · rw [if_neg q2, if_pos (by rw [fa_le]; rw [fa_lt] at q2; omega)]
    rw [if_neg (show ¬ f_n F ≤ i by omega), e, show (upI μ' 2 i (shA w n f s i)).1 2 i = shA w n f s i by rw [rI, if_pos ⟨rfl, rfl⟩]]
    refine ⟨fun _ => ⟨vp_in_nI (by omega) (by omega), fun _ _ => vp_in_nI (by omega) (by omega)⟩, .inl ⟨_, rfl, z, _, rfl, by omega, hf.up (by simp), fun j hj => ?_⟩⟩
    rw [rI]
    by_cases e : j = i
    · subst e; rw [if_pos ⟨rfl, rfl⟩, if_pos (by omega)]
    · rw [if_neg (by omega), hw j hj]
      by_cases q : j < i
      · rw [if_pos q, if_pos (by omega)]
      · rw [if_neg q, if_neg (by omega)]
  · have e : i = f_n F := by omega
    subst e
    rw [if_pos (Nat.le_refl (f_n F))]
    refine ⟨fun y => absurd (Nat.le_refl _) y, .inr ⟨_, rfl, rfl, rfl, hn, hsz, hw, fun j hj => ?_, fun j hj => ?_, fun j hj => ?_, ?_, ?_, ?_⟩⟩
    · rw [hf.1 (1 + 2) (by simp)]; exact h.h hj
    · rw [hf.1 (1 + 3) (by simp)]; exact h.p hj
    · rw [hf.1 (1 + 4) (by simp)]; exact h.k hj
    · rw [hf.1 1 (by simp)]; exact h.o
    · rw [hf.1 1 (by simp)]; exact h.t
    · rw [hf.1 1 (by simp)]; exact h.z
theorem M_shl {F : FL} (h : FlM 52 F μ) (w n f s : Int32) : whP (fun s : Int32 × Int32 × Int32 × Int32 × Int32 × Int32 × Mm => bd_X12_sheet_46 s.1 s.2.1 s.2.2.1 s.2.2.2.1 s.2.2.2.2.1 s.2.2.2.2.2.1 s.2.2.2.2.2.2) (fun s : Int32 × Int32 × Int32 × Int32 × Int32 × Int32 × Mm => sd_X12_sheet_46 s.1 s.2.1 s.2.2.1 s.2.2.2.1 s.2.2.2.2.1 s.2.2.2.2.2.1 s.2.2.2.2.2.2) FU (w, n, s, 0, f, 0, μ) ∧ (fun z : Int32 × Int32 × Mm => z.1 = w ∧ z.2.1 = sm (fun i => shA w n f s i) (f_n F) ∧ FlM 52 (shF F w n f s) z.2.2) (whl (fun s : Int32 × Int32 × Int32 × Int32 × Int32 × Int32 × Mm => bd_X12_sheet_46 s.1 s.2.1 s.2.2.1 s.2.2.2.1 s.2.2.2.2.1 s.2.2.2.2.2.1 s.2.2.2.2.2.2) (fun s : Int32 × Int32 × Int32 × Int32 × Int32 × Int32 × Mm => (0, 0, s.2.2.2.2.2.2)) FU (w, n, s, 0, f, 0, μ)) := by
  have hn := h.1
  refine lpI (f := fun s : Int32 × Int32 × Int32 × Int32 × Int32 × Int32 × Mm => bd_X12_sheet_46 s.1 s.2.1 s.2.2.1 s.2.2.2.1 s.2.2.2.2.1 s.2.2.2.2.2.1 s.2.2.2.2.2.2) (sd := fun s : Int32 × Int32 × Int32 × Int32 × Int32 × Int32 × Mm => sd_X12_sheet_46 s.1 s.2.1 s.2.2.1 s.2.2.2.1 s.2.2.2.2.1 s.2.2.2.2.2.1 s.2.2.2.2.2.2) (dd := fun s : Int32 × Int32 × Int32 × Int32 × Int32 × Int32 × Mm => (0, 0, s.2.2.2.2.2.2))
    (I := fun i s' => ∃ μ', s' = (w, n, s, sm (fun i => shA w n f s i) i, f + nI i * s, nI i, μ') ∧ i ≤ f_n F ∧ Fr [51] μ μ' ∧ ∀ j, j < 7 → μ'.1 51 j = if j < i then shA w n f s j else f_w F j)
    (R := fun z : Int32 × Int32 × Mm => z.1 = w ∧ z.2.1 = sm (fun i => shA w n f s i) (f_n F) ∧ FlM 52 (shF F w n f s) z.2.2) (f_n F) (by omega) ?_ (s0 := (w, n, s, 0, f, 0, μ)) ⟨μ, by rw [nI_0, Int32.zero_mul, Int32.add_zero]; rfl, Nat.zero_le _, Fr.rfl, fun j hj => by rw [if_neg (by omega)]; exact h.w hj⟩
  rintro i _ hi ⟨μ', rfl, hi2, hf, hw⟩
  dsimp only
  unfold sd_X12_sheet_46 bd_X12_sheet_46
  dsimp only
  have hsz : μ'.1 49 3 = nI (f_n F) := by rw [hf.1 49 (by simp)]; exact h.sz
  rw [hsz, nI_clamp (by omega)]
  simp only [nI_leI (show f_n F < 2 ^ 31 by omega) (show i < 2 ^ 31 by omega)]
  rcases Nat.lt_or_ge i (f_n F) with z | z
  · rw [(clampE _).1]
    have e : (if w = 3 then (1 : Int32) else if nI i < n then v_X11_entryOf w (f + nI i * s) else 1) = shA w n f s i := rfl
    unfold v_X11_entryOf at e
    rw [if_neg (show ¬ f_n F ≤ i by omega), e, rI, if_pos ⟨rfl, rfl⟩]
    have e2 : f + nI i * s + s = f + nI (i + 1) * s := by
      rw [← nI_1, Int32.add_mul, Int32.one_mul, Int32.add_assoc]
    rw [e2]
    refine ⟨fun _ => ⟨vp_in_nI (by omega) (by omega), fun _ _ => vp_in_nI (by omega) (by omega)⟩, .inl ⟨_, rfl, z, _, by rw [nI_1]; rfl, by omega, hf.up (by simp), fun j hj => ?_⟩⟩
    rw [rI]
    by_cases e : j = i
    · subst e; rw [if_pos ⟨rfl, rfl⟩, if_pos (by omega)]
    · rw [if_neg (by omega), hw j hj]
      by_cases q : j < i
      · rw [if_pos q, if_pos (by omega)]
      · rw [if_neg q, if_neg (by omega)]
  · have e : i = f_n F := by omega
    subst e
    rw [if_pos (Nat.le_refl (f_n F))]
    refine ⟨fun y => absurd (Nat.le_refl _) y, .inr ⟨_, rfl, rfl, rfl, hn, hsz, hw, fun j hj => ?_, fun j hj => ?_, fun j hj => ?_, ?_, ?_, ?_⟩⟩
    · rw [hf.1 52 (by simp)]; exact h.h hj
    · rw [hf.1 52 (by simp)]; exact h.p hj
    · rw [hf.1 52 (by simp)]; exact h.k hj
    · rw [hf.1 52 (by simp)]; exact h.o
    · rw [hf.1 52 (by simp)]; exact h.t
    · rw [hf.1 52 (by simp)]; exact h.z
theorem C_sheet {F : FL} (h : FlC 1 F μ) (w n f s : Int32) : p_X11_sheet w n f s μ ∧ v_X11_sheet w n f s μ = shV F w n f s ∧ FlC 1 (shG F w n f s) (e_X11_sheet w n f s μ) := by
  have key := C_shl h w n f s
  unfold p_X11_sheet v_X11_sheet e_X11_sheet shV shG
  rw [ite_gt t0 t3, ite_gt t0 t3]
  unfold shok shok2
  cases q0 : inB w 0 3
  · simp only [Bool.false_eq_true, if_false, Bool.false_and]
    refine ⟨fun g1 g2 => ?_, trivial, h⟩
    exfalso
    simp only [inB, decide_eq_false_iff_not] at q0
    rw [fa_lt, t0] at g1
    rw [fa_lt, t3] at g2
    omega
  · by_cases q1 : n ≤ 7
    · by_cases q2 : w = 3
      · subst q2
        simp only [if_true] at key
        obtain ⟨k1, k2, k3, k4⟩ := key
        simp only [q1, if_true, decide_true, Bool.and_self, Bool.true_or]
        generalize whl _ _ FU _ = z at k2 k3 k4 ⊢
        rw [k2]
        exact ⟨fun _ _ _ => ⟨fun _ => k1, fun z => absurd trivial z⟩, rfl, k4⟩
      · by_cases q3 : 0 ≤ n
        · simp only [q2, if_false] at key
          obtain ⟨k1, k2, k3, k4⟩ := key
          simp only [q1, q2, q3, if_true, if_false, decide_true, decide_false, Bool.and_self, Bool.or_true]
          generalize whl _ _ FU _ = z at k2 k3 k4 ⊢
          rw [k2, if_neg q2]
          exact ⟨fun _ _ _ => ⟨fun z => absurd z id, fun _ _ => k1⟩, k3, k4⟩
        · simp only [q1, q2, q3, if_true, if_false, decide_true, decide_false, Bool.and_self, Bool.or_self, Bool.false_eq_true]
          exact ⟨fun _ _ _ => ⟨fun z => absurd z id, fun _ z => absurd z id⟩, trivial, h⟩
    · simp only [q1, if_true, if_false, decide_false, Bool.and_false, Bool.false_eq_true]
      exact ⟨fun _ _ z => absurd z id, trivial, h⟩
theorem M_sheet {F : FL} (h : FlM 52 F μ) (w n f s : Int32) : p_X12_sheet w n f s μ ∧ v_X12_sheet w n f s μ = shV F w n f s ∧ FlM 52 (shG F w n f s) (e_X12_sheet w n f s μ) := by
  have h0 : FlM 52 F (upI μ 49 0 0) := h.up (by omega)
  have key := M_shl h0 w n f s
  unfold p_X12_sheet v_X12_sheet e_X12_sheet shV shG
  simp only [forall_eq]
  rw [in_B s0 s3]
  generalize upI μ 49 0 0 = μ1 at *
  unfold shok shok2
  cases q0 : inB w 0 3
  · simp only [Bool.false_eq_true, if_false, if_true, Bool.false_and]
    exact ⟨fun z => absurd trivial z, trivial, h0⟩
  · obtain ⟨k1, k2, k3, k4⟩ := key
    by_cases q1 : n ≤ 7
    · by_cases q2 : w = 3
      · subst q2
        simp only [q1, if_true, decide_true, Bool.and_self, Bool.true_or, show ¬ ((1 : Int32) = 0) from by decide, if_false]
        generalize whl _ _ FU _ = z at k2 k3 k4 ⊢
        rw [k2]
        exact ⟨fun _ _ => ⟨fun _ => k1, fun z => absurd trivial z⟩, rfl, k4⟩
      · by_cases q3 : 0 ≤ n
        · simp only [q1, q2, q3, if_true, if_false, decide_true, decide_false, Bool.and_self, Bool.or_true, show ¬ ((1 : Int32) = 0) from by decide]
          generalize whl _ _ FU _ = z at k2 k3 k4 ⊢
          rw [k2, if_neg q2]
          exact ⟨fun _ _ => ⟨fun z => absurd z id, fun _ _ => k1⟩, k3, k4⟩
        · simp only [q1, q2, q3, if_true, if_false, decide_true, decide_false, Bool.and_self, Bool.or_self, Bool.false_eq_true, show ¬ ((1 : Int32) = 0) from by decide]
          exact ⟨fun _ _ => ⟨fun z => absurd z id, fun _ z => absurd z id⟩, trivial, h0⟩
    · simp only [q1, if_true, if_false, decide_false, Bool.and_false, Bool.false_eq_true, show ¬ ((1 : Int32) = 0) from by decide]
      exact ⟨fun _ z => absurd z id, trivial, h0⟩
theorem call_sheet (h : Sim σ R μ) (w n f s : Int32) : Call (p_X11_sheet w n f s μ) (p_X12_sheet w n f s (e_X11_sheet w n f s μ)) (v_X11_sheet w n f s μ) (v_X12_sheet w n f s (e_X11_sheet w n f s μ)) (e_X12_sheet w n f s (e_X11_sheet w n f s μ)) := by
  obtain ⟨ok, hc, hm, tc, tm⟩ := h
  have fC := fr_X11_sheet w n f s μ
  have hm1 := hm.frC fC (by decide)
  have tm1 := tm.frC fC (by decide)
  have tc1 := tc.fr fC (by decide)
  have fM := fs_X12_sheet w n f s (e_X11_sheet w n f s μ)
  obtain ⟨a1, a2, a3⟩ := C_sheet hc.F w n f s
  obtain ⟨b1, b2, b3⟩ := M_sheet hm1.F w n f s
  have hk := shG_n (s_F σ) w n f s
  refine ⟨a1, b1, a2.trans b2.symm, Both (σ' := (shG (s_F σ) w n f s, s_r σ, s_T σ, s_U σ, s_K σ, s_S σ, s_H σ)) ⟨ok, hc, hm, tc, tm⟩ ⟨RgF_sh ok.1 w n f s, ok.2.1, ok.2.2.1, fun S hS => ?_, fun i S hi hS => ?_, fun x hx => ?_, ok.2.2.2.2.2.2⟩ ⟨a3, hc.r.fr fC (by decide), hc.T.fr fC (by decide), hc.U.fr fC (by decide), hc.K.fr fC (by decide), hc.S.fr fC (by decide), hc.H.fr fC (by decide)⟩ tc1 ⟨b3, hm1.r.fs fM (by decide), hm1.T.fs fM (by decide), hm1.U.fs fM (by decide), ?_, hm1.S.fs fM (by decide), hm1.H.fs fM (by decide)⟩ (tm1.fs fM (by decide)) fM (by decide)⟩
  · show RgR (f_n (shG (s_F σ) w n f s)) S
    rw [hk]; exact ok.2.2.2.1 S hS
  · show RgR (f_n (shG (s_F σ) w n f s)) S
    rw [hk]; exact ok.2.2.2.2.1 i S hi hS
  · show hasF (shG (s_F σ) w n f s) x.1 = true ∧ _
    rw [hasF_n hk]; exact ok.2.2.2.2.2.1 x hx
  · show KeM (s_K σ) (f_n (shG (s_F σ) w n f s)) _
    rw [hk]; exact hm1.K.fs fM (by decide)
end SG

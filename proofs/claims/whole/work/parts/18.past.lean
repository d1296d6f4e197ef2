/-! what is put by, and brought back -/
theorem nI_mul (a b : Nat) : nI a * nI b = nI (a * b) := (Int32.ofNat_mul a b).symm
theorem nI_sub {a b : Nat} (h : b ≤ a) : nI a - nI b = nI (a - b) := by
  obtain ⟨c, rfl⟩ : ∃ c, a = c + b := ⟨a - b, by omega⟩
  rw [← nI_add, Int32.add_sub_cancel, Nat.add_sub_cancel]
theorem in_nI {x : Int32} {j n : Nat} (h : x = nI j) (hj : j < n) (hn : n < 2 ^ 31) : vp_in x n := by rw [h]; exact vp_in_nI hj hn
theorem cl_nI {x : Int32} {j : Nat} (h : x = nI j) (hj : j < 2 ^ 31) : x.toNatClampNeg = j := by rw [h, nI_clamp hj]
abbrev Rw : Type := (Nat → Int32) × (Nat → Int32) × (Nat → Int32) × Int32 × Int32 × Int32
def rowF (F : FL) : Rw := (f_h F, f_p F, f_k F, f_o F, f_t F, f_z F)
def putF (F : FL) (R : Rw) : FL := (f_n F, f_w F, R.1, R.2.1, R.2.2.1, R.2.2.2.1, R.2.2.2.2.1, R.2.2.2.2.2)
def RwC (c a : Nat) (R : Rw) (μ : Mm) : Prop := (∀ i, i < 7 → μ.1 c (a + 3 * i) = R.1 i ∧ μ.1 c (a + 3 * i + 1) = R.2.1 i ∧ μ.1 c (a + 3 * i + 2) = R.2.2.1 i) ∧ μ.1 c (a + 21) = R.2.2.2.1 ∧ μ.1 c (a + 22) = R.2.2.2.2.1 ∧ μ.1 c (a + 23) = R.2.2.2.2.2
def RwM (c a : Nat) (R : Rw) (μ : Mm) : Prop := (∀ i, i < 7 → μ.1 c (a + i) = R.1 i ∧ μ.1 c (a + (7 + i)) = R.2.1 i ∧ μ.1 c (a + (14 + i)) = R.2.2.1 i) ∧ μ.1 c (a + 21) = R.2.2.2.1 ∧ μ.1 c (a + 22) = R.2.2.2.2.1 ∧ μ.1 c (a + 23) = R.2.2.2.2.2
theorem RwC.same {c a : Nat} {R : Rw} {μ μ' : Mm} (h : RwC c a R μ) (e : ∀ j, a ≤ j → j < a + 24 → μ'.1 c j = μ.1 c j) : RwC c a R μ' := by
  refine ⟨fun i hi => ?_, ?_, ?_, ?_⟩
  · rw [e _ (by omega) (by omega), e _ (by omega) (by omega), e _ (by omega) (by omega)]; exact h.1 i hi
  · rw [e _ (by omega) (by omega)]; exact h.2.1
  · rw [e _ (by omega) (by omega)]; exact h.2.2.1
  · rw [e _ (by omega) (by omega)]; exact h.2.2.2
theorem RwM.same {c a c' a' : Nat} {R : Rw} {μ μ' : Mm} (h : RwM c a R μ) (e : ∀ j, j < 24 → μ'.1 c' (a' + j) = μ.1 c (a + j)) : RwM c' a' R μ' := by
  refine ⟨fun i hi => ?_, ?_, ?_, ?_⟩
  · rw [e _ (by omega), e _ (by omega), e _ (by omega)]; exact h.1 i hi
  · rw [e _ (by omega)]; exact h.2.1
  · rw [e _ (by omega)]; exact h.2.2.1
  · rw [e _ (by omega)]; exact h.2.2.2
theorem FlM.row {q : Nat} {F : FL} {μ : Mm} (h : FlM q F μ) : RwM q 0 (rowF F) μ := by
  refine ⟨fun i hi => ?_, ?_, ?_, ?_⟩
  · simp only [Nat.zero_add]; exact ⟨h.h hi, h.p hi, h.k hi⟩
  · exact h.o
  · exact h.t
  · exact h.z
theorem RwM.fl {F : FL} {R : Rw} {μ : Mm} (h : RwM 52 0 R μ) (hn : f_n F ≤ 7) (h1 : μ.1 49 3 = nI (f_n F)) (h2 : ∀ i, i < 7 → μ.1 51 i = f_w F i) : FlM 52 (putF F R) μ := by
  refine ⟨hn, h1, h2, fun i hi => ?_, fun i hi => ?_, fun i hi => ?_, ?_, ?_, ?_⟩
  · have := (h.1 i hi).1; rw [Nat.zero_add] at this; exact this
  · have := (h.1 i hi).2.1; rw [Nat.zero_add] at this; exact this
  · have := (h.1 i hi).2.2; rw [Nat.zero_add] at this; exact this
  · exact h.2.1
  · exact h.2.2.1
  · exact h.2.2.2
section PA
variable {c n0 a : Nat} {F : FL} {R : Rw} {μ : Mm}
theorem C_writeTo (h : FlC 1 F μ) (hc : 5 < c) (ha : a + 24 ≤ n0) (hn0 : n0 ≤ 384) : p_X1_writeTo 1 c n0 (nI a) μ ∧ RwC c a (rowF F) (e_X1_writeTo 1 c n0 (nI a) μ) ∧ ∀ j, j < a ∨ a + 24 ≤ j → (e_X1_writeTo 1 c n0 (nI a) μ).1 c j = μ.1 c j := by
  have key := lpI (f := fun s : Int32 × Int32 × Mm => bd_X1_writeTo_16 1 c n0 s.1 s.2.1 s.2.2) (sd := fun s : Int32 × Int32 × Mm => sd_X1_writeTo_16 1 c n0 s.1 s.2.1 s.2.2) (dd := fun s : Int32 × Int32 × Mm => (0, s.2.2))
    (I := fun i s => ∃ μ', s = (nI a, nI i, μ') ∧ i ≤ 7 ∧ Fr [c] μ μ' ∧ (∀ j, j < i → μ'.1 c (a + 3 * j) = f_h F j ∧ μ'.1 c (a + 3 * j + 1) = f_p F j ∧ μ'.1 c (a + 3 * j + 2) = f_k F j) ∧ ∀ j, j < a ∨ a + 24 ≤ j → μ'.1 c j = μ.1 c j)
    (R := fun z => z.1 = nI a ∧ Fr [c] μ z.2 ∧ (∀ j, j < 7 → z.2.1 c (a + 3 * j) = f_h F j ∧ z.2.1 c (a + 3 * j + 1) = f_p F j ∧ z.2.1 c (a + 3 * j + 2) = f_k F j) ∧ ∀ j, j < a ∨ a + 24 ≤ j → z.2.1 c j = μ.1 c j) 7 (by omega) ?_ (s0 := (nI a, 0, μ)) ⟨_, rfl, Nat.zero_le _, Fr.rfl, fun j hj => absurd hj (by omega), fun _ _ => rfl⟩
  · obtain ⟨k1, k2, k3, k4, k5⟩ := key
    unfold p_X1_writeTo e_X1_writeTo
    have g1 : ¬ (nI a < 0) := nI_pos (by omega)
    have g2 : nI a + 24 ≤ Int32.ofNat n0 := by
      rw [show (24 : Int32) = nI 24 from rfl, nI_add]
      exact nI_le ha (by omega)
    rw [if_neg g1, if_pos g2]
    simp only [forall_eq]
    generalize whl _ _ FU _ = z at k2 k3 k4 k5 ⊢
    rw [k2]
    have q3 : nI a + 24 - 3 = nI (a + 21) := by rw [show (24 : Int32) = nI 24 from rfl, nI_add, show (3 : Int32) = nI 3 from rfl, nI_sub (by omega)]; rfl
    have q2 : nI a + 24 - 2 = nI (a + 22) := by rw [show (24 : Int32) = nI 24 from rfl, nI_add, show (2 : Int32) = nI 2 from rfl, nI_sub (by omega)]; rfl
    have q1 : nI a + 24 - 1 = nI (a + 23) := by rw [show (24 : Int32) = nI 24 from rfl, nI_add, show (1 : Int32) = nI 1 from rfl, nI_sub (by omega)]; rfl
    simp (disch := omega) only [q1, q2, q3, nI_clamp, rIc, k3.1 1 (show 1 ∉ [c] by simp; omega), h.o, h.t, h.z]
    refine ⟨fun _ _ => ⟨k1, vp_in_nI (by omega) (by omega), vp_in_nI (by omega) (by omega), vp_in_nI (by omega) (by omega)⟩, ⟨fun i hi => ?_, ?_, ?_, ?_⟩, fun j hj => ?_⟩
    · have := k4 i hi
      refine ⟨?_, ?_, ?_⟩
      · simp (disch := omega) only [rI, if_neg]; exact this.1
      · simp (disch := omega) only [rI, and_self, if_true, if_pos, if_neg]; exact this.2.1
      · simp (disch := omega) only [rI, and_self, if_true, if_pos, if_neg]; exact this.2.2
    · simp (disch := omega) only [rI, and_self, if_true, if_pos, if_neg]; rfl
    · simp (disch := omega) only [rI, and_self, if_true, if_pos, if_neg]; rfl
    · simp (disch := omega) only [rI, and_self, if_true, if_pos, if_neg]; rfl
    · simp (disch := omega) only [rI, and_self, if_true, if_pos, if_neg]; exact k5 j hj
  · rintro i _ hi ⟨μ', rfl, hi2, hf, hcc, hs⟩
    dsimp only
    unfold sd_X1_writeTo_16 bd_X1_writeTo_16
    have e0 : nI a + 3 * nI i = nI (a + 3 * i) := by rw [show (3 : Int32) = nI 3 from rfl, nI_mul, nI_add]
    have e1 : nI (a + 3 * i) + 1 = nI (a + 3 * i + 1) := nI_1 _
    have e2 : nI (a + 3 * i) + 2 = nI (a + 3 * i + 2) := by rw [show (2 : Int32) = nI 2 from rfl, nI_add]
    rw [nI_1, show (7 : Int32) = nI 7 from rfl, e0, e1, e2]
    simp only [nI_leI (show 7 < 2 ^ 31 by omega) (show i < 2 ^ 31 by omega), nI_clamp (show i < 2 ^ 31 by omega), nI_clamp (show a + 3 * i < 2 ^ 31 by omega), nI_clamp (show a + 3 * i + 1 < 2 ^ 31 by omega), nI_clamp (show a + 3 * i + 2 < 2 ^ 31 by omega)]
    rcases Nat.lt_or_ge i 7 with z | z
    · rw [if_neg (by omega)]
      have v := vp_in_nI (N := 7) z (by omega)
      have h' : FlC 1 F μ' := h.fr hf (by simp; omega)
      simp (disch := omega) only [rIc, h'.h, h'.p, h'.k]
      refine ⟨fun _ => ⟨v, vp_in_nI (by omega) (by omega), fun _ _ => ⟨v, vp_in_nI (by omega) (by omega), fun _ _ => ⟨v, vp_in_nI (by omega) (by omega)⟩⟩⟩, .inl ⟨_, rfl, z, _, rfl, by omega, ((hf.up (by simp)).up (by simp)).up (by simp), fun j hj => ?_, fun j hj => ?_⟩⟩
      · simp only [rI]
        by_cases e : j = i
        · subst e
          refine ⟨?_, ?_, ?_⟩
          · simp (disch := omega) only [and_self, if_true, if_pos, if_neg]
          · simp (disch := omega) only [and_self, if_true, if_pos, if_neg]
          · simp (disch := omega) only [and_self, if_true, if_pos, if_neg]
        · have := hcc j (by omega)
          refine ⟨?_, ?_, ?_⟩
          · rw [if_neg (by omega), if_neg (by omega), if_neg (by omega)]; exact this.1
          · rw [if_neg (by omega), if_neg (by omega), if_neg (by omega)]; exact this.2.1
          · rw [if_neg (by omega), if_neg (by omega), if_neg (by omega)]; exact this.2.2
      · simp only [rI]
        rw [if_neg (by omega), if_neg (by omega), if_neg (by omega)]; exact hs j hj
    · have e : i = 7 := by omega
      subst e
      rw [if_pos (by omega)]
      exact ⟨fun y => absurd (Nat.le_refl _) y, .inr ⟨_, rfl, rfl, hf, hcc, hs⟩⟩
theorem C_readFrom (h : FlC 1 F μ) (hR : RwC c a R μ) (hc : 5 < c) (ha : a + 24 ≤ n0) (hn0 : n0 ≤ 384) : p_X1_readFrom 1 c n0 (nI a) μ ∧ FlC 1 (putF F R) (e_X1_readFrom 1 c n0 (nI a) μ) := by
  have key := lpI (f := fun s : Int32 × Int32 × Mm => bd_X1_readFrom_16 1 c n0 s.1 s.2.1 s.2.2) (sd := fun s : Int32 × Int32 × Mm => sd_X1_readFrom_16 1 c n0 s.1 s.2.1 s.2.2) (dd := fun s : Int32 × Int32 × Mm => (0, s.2.2))
    (I := fun i s => ∃ μ', s = (nI a, nI i, μ') ∧ i ≤ 7 ∧ Fr [3, 4, 5] μ μ' ∧ (∀ j, j < i → μ'.1 3 j = R.1 j ∧ μ'.1 4 j = R.2.1 j ∧ μ'.1 5 j = R.2.2.1 j))
    (R := fun z => z.1 = nI a ∧ Fr [3, 4, 5] μ z.2 ∧ (∀ j, j < 7 → z.2.1 3 j = R.1 j ∧ z.2.1 4 j = R.2.1 j ∧ z.2.1 5 j = R.2.2.1 j)) 7 (by omega) ?_ (s0 := (nI a, 0, μ)) ⟨_, rfl, Nat.zero_le _, Fr.rfl, fun j hj => absurd hj (by omega)⟩
  · obtain ⟨k1, k2, k3, k4⟩ := key
    unfold p_X1_readFrom e_X1_readFrom
    have g1 : ¬ (nI a < 0) := nI_pos (by omega)
    have g2 : nI a + 24 ≤ Int32.ofNat n0 := by
      rw [show (24 : Int32) = nI 24 from rfl, nI_add]
      exact nI_le ha (by omega)
    rw [if_neg g1, if_pos g2]
    simp only [forall_eq]
    generalize whl _ _ FU _ = z at k2 k3 k4 ⊢
    rw [k2]
    have q3 : nI a + 24 - 3 = nI (a + 21) := by rw [show (24 : Int32) = nI 24 from rfl, nI_add, show (3 : Int32) = nI 3 from rfl, nI_sub (by omega)]; rfl
    have q2 : nI a + 24 - 2 = nI (a + 22) := by rw [show (24 : Int32) = nI 24 from rfl, nI_add, show (2 : Int32) = nI 2 from rfl, nI_sub (by omega)]; rfl
    have q1 : nI a + 24 - 1 = nI (a + 23) := by rw [show (24 : Int32) = nI 24 from rfl, nI_add, show (1 : Int32) = nI 1 from rfl, nI_sub (by omega)]; rfl
    simp (disch := omega) only [q1, q2, q3, nI_clamp, rIc, k3.1 c (show c ∉ [3, 4, 5] by simp; omega), hR.2.1, hR.2.2.1, hR.2.2.2]
    refine ⟨fun _ _ => ⟨k1, vp_in_nI (by omega) (by omega), vp_in_nI (by omega) (by omega), vp_in_nI (by omega) (by omega)⟩, h.1, ?_, fun i hi => ?_, fun i hi => ?_, fun i hi => ?_, fun i hi => ?_, ?_, ?_, ?_⟩
    · simp [rI, k3.1 1]; exact h.sz
    · simp [rI, k3.1 2]; exact h.w hi
    · simp [rI, (k4 i hi).1]; rfl
    · simp [rI, (k4 i hi).2.1]; rfl
    · simp [rI, (k4 i hi).2.2]; rfl
    · simp [rI]; rfl
    · simp [rI]; rfl
    · simp [rI]; rfl
  · rintro i _ hi ⟨μ', rfl, hi2, hf, hcc⟩
    dsimp only
    unfold sd_X1_readFrom_16 bd_X1_readFrom_16
    have e0 : nI a + 3 * nI i = nI (a + 3 * i) := by rw [show (3 : Int32) = nI 3 from rfl, nI_mul, nI_add]
    have e1 : nI (a + 3 * i) + 1 = nI (a + 3 * i + 1) := nI_1 _
    have e2 : nI (a + 3 * i) + 2 = nI (a + 3 * i + 2) := by rw [show (2 : Int32) = nI 2 from rfl, nI_add]
    rw [nI_1, show (7 : Int32) = nI 7 from rfl, e0, e1, e2]
    simp only [nI_leI (show 7 < 2 ^ 31 by omega) (show i < 2 ^ 31 by omega), nI_clamp (show i < 2 ^ 31 by omega), nI_clamp (show a + 3 * i < 2 ^ 31 by omega), nI_clamp (show a + 3 * i + 1 < 2 ^ 31 by omega), nI_clamp (show a + 3 * i + 2 < 2 ^ 31 by omega)]
    rcases Nat.lt_or_ge i 7 with z | z
    · rw [if_neg (by omega)]
      have v := vp_in_nI (N := 7) z (by omega)
      have hR' := hR.1 i z
      simp (disch := omega) only [rIc, hf.1 c (show c ∉ [3, 4, 5] by simp; omega), hR'.1, hR'.2.1, hR'.2.2]
      refine ⟨fun _ => ⟨vp_in_nI (by omega) (by omega), v, fun _ _ => ⟨vp_in_nI (by omega) (by omega), v, fun _ _ => ⟨vp_in_nI (by omega) (by omega), v⟩⟩⟩, .inl ⟨_, rfl, z, _, rfl, by omega, ((hf.up (by simp)).up (by simp)).up (by simp), fun j hj => ?_⟩⟩
      by_cases e : j = i
      · subst e; simp [rI]
      · have := hcc j (by omega)
        simp [rI, e, this]
    · have e : i = 7 := by omega
      subst e
      rw [if_pos (by omega)]
      exact ⟨fun y => absurd (Nat.le_refl _) y, .inr ⟨_, rfl, rfl, hf, hcc⟩⟩
end PA
/-! the list of what can be undone: the last one first -/
def rw0 : Rw := (fun _ => 0, fun _ => 0, fun _ => 0, 0, 0, 0)
def UnC (U : List Rw) (μ : Mm) : Prop := U.length ≤ 15 ∧ μ.1 29 2 = nI U.length ∧ ∃ nx, nx < 16 ∧ μ.1 29 1 = nI nx ∧ ∀ j, j < U.length → RwC 30 (24 * ((nx + 15 - j) % 16)) (U.getD j rw0) μ
def PnC (U : List Rw) (R : Rw) (μ : Mm) : Prop := U.length ≤ 15 ∧ μ.1 29 2 = nI U.length ∧ ∃ nx, nx < 16 ∧ μ.1 29 1 = nI nx ∧ RwC 30 (24 * nx) R μ ∧ ∀ j, j < U.length → RwC 30 (24 * ((nx + 15 - j) % 16)) (U.getD j rw0) μ
def UnM (U : List Rw) (μ : Mm) : Prop := U.length ≤ 15 ∧ μ.1 49 23 = nI U.length ∧ ∀ j, j < U.length → RwM 61 (24 * (U.length - 1 - j)) (U.getD j rw0) μ
def PnM (U : List Rw) (R : Rw) (μ : Mm) : Prop := U.length ≤ 15 ∧ μ.1 49 23 = nI U.length ∧ RwM 61 (24 * U.length) R μ ∧ ∀ j, j < U.length → RwM 61 (24 * (U.length - 1 - j)) (U.getD j rw0) μ
theorem PnC.un {U : List Rw} {R : Rw} {μ : Mm} (h : PnC U R μ) : UnC U μ := by
  obtain ⟨h1, h2, nx, h3, h4, h5, h6⟩ := h
  exact ⟨h1, h2, nx, h3, h4, h6⟩
theorem PnM.un {U : List Rw} {R : Rw} {μ : Mm} (h : PnM U R μ) : UnM U μ := ⟨h.1, h.2.1, h.2.2.2⟩
theorem RwC.fr {c a : Nat} {R : Rw} {μ μ' : Mm} {S : List Nat} (h : RwC c a R μ) (f : Fr S μ μ') (hc : c ∉ S) : RwC c a R μ' := h.same (fun _ _ _ => by rw [f.1 c hc])
theorem UnC.fr {U : List Rw} {μ μ' : Mm} {S : List Nat} (h : UnC U μ) (f : Fr S μ μ') (hc : 29 ∉ S ∧ 30 ∉ S) : UnC U μ' := by
  obtain ⟨h1, h2, nx, h3, h4, h6⟩ := h
  exact ⟨h1, by rw [f.1 29 hc.1]; exact h2, nx, h3, by rw [f.1 29 hc.1]; exact h4, fun j hj => (h6 j hj).fr f hc.2⟩
theorem PnC.fr {U : List Rw} {R : Rw} {μ μ' : Mm} {S : List Nat} (h : PnC U R μ) (f : Fr S μ μ') (hc : 29 ∉ S ∧ 30 ∉ S) : PnC U R μ' := by
  obtain ⟨h1, h2, nx, h3, h4, h5, h6⟩ := h
  exact ⟨h1, by rw [f.1 29 hc.1]; exact h2, nx, h3, by rw [f.1 29 hc.1]; exact h4, h5.fr f hc.2, fun j hj => (h6 j hj).fr f hc.2⟩
theorem RwM.fs {c a : Nat} {R : Rw} {μ μ' : Mm} {S : List Nat} (h : RwM c a R μ) (f : Fs S μ μ') (hc : c ∉ S) (h9 : c ≠ 49) : RwM c a R μ' := h.same (fun _ _ => f.1 c _ hc (.inl h9))
theorem UnM.fs {U : List Rw} {μ μ' : Mm} {S : List Nat} (h : UnM U μ) (f : Fs S μ μ') (hc : 49 ∉ S ∧ 61 ∉ S ∧ 1023 ∉ S) : UnM U μ' :=
  ⟨h.1, by rw [f.1 49 23 hc.1 (.inr hc.2.2)]; exact h.2.1, fun j hj => (h.2.2 j hj).fs f hc.2.1 (by omega)⟩
theorem PnM.fs {U : List Rw} {R : Rw} {μ μ' : Mm} {S : List Nat} (h : PnM U R μ) (f : Fs S μ μ') (hc : 49 ∉ S ∧ 61 ∉ S ∧ 1023 ∉ S) : PnM U R μ' :=
  ⟨h.1, by rw [f.1 49 23 hc.1 (.inr hc.2.2)]; exact h.2.1, h.2.2.1.fs f hc.2.1 (by omega), fun j hj => (h.2.2.2 j hj).fs f hc.2.1 (by omega)⟩
theorem mod16 : ∀ n, n < 64 → nI n - nI n / 16 * 16 = nI (n % 16) := by decide +kernel
section UN
variable {F : FL} {U : List Rw} {R : Rw} {μ : Mm}
theorem C_note (h : FlC 1 F μ) (hu : UnC U μ) : p_X3_note 1 μ ∧ PnC U (rowF F) (e_X3_note 1 μ) := by
  obtain ⟨h1, h2, nx, h3, h4, h6⟩ := hu
  have e : μ.1 29 1 * 24 = nI (24 * nx) := by rw [h4, show (24 : Int32) = nI 24 from rfl, nI_mul, Nat.mul_comm]
  unfold p_X3_note e_X3_note
  rw [e]
  obtain ⟨p1, p2, p3⟩ := C_writeTo (c := 30) (n0 := 384) (a := 24 * nx) h (by omega) (by omega) (by omega)
  have f := fr_X1_writeTo 1 30 384 (nI (24 * nx)) μ
  dsimp only
  generalize e_X1_writeTo 1 30 384 (nI (24 * nx)) μ = z at p2 p3 f ⊢
  refine ⟨p1, h1, ?_, nx, h3, ?_, p2, fun j hj => (h6 j hj).same (fun i hi1 hi2 => p3 i ?_)⟩
  · rw [f.1 29 (by simp)]; exact h2
  · rw [f.1 29 (by simp)]; exact h4
  · have : (nx + 15 - j) % 16 ≠ nx := by omega
    omega
theorem C_commit (hu : PnC U R μ) : UnC ((R :: U).take 15) (e_X3_commit μ) := by
  obtain ⟨h1, h2, nx, h3, h4, h5, h6⟩ := hu
  have hl : ((R :: U).take 15).length = min 15 (U.length + 1) := by simp; omega
  have e1 : nI nx + 1 - (nI nx + 1) / 16 * 16 = nI ((nx + 1) % 16) := by rw [nI_1, mod16 _ (by omega)]
  have e2 : (if (15 : Int32) < nI U.length + 1 then 15 else nI U.length + 1) = nI (min 15 (U.length + 1)) := by
    rw [nI_1, show (15 : Int32) = nI 15 from rfl]
    simp only [nI_ltI (show 15 < 2 ^ 31 by omega) (show U.length + 1 < 2 ^ 31 by omega)]
    by_cases q : 15 < U.length + 1
    · rw [if_pos q, Nat.min_eq_left (by omega)]
    · rw [if_neg q, Nat.min_eq_right (by omega)]
  unfold e_X3_commit
  dsimp only
  refine ⟨by rw [hl]; omega, ?_, (nx + 1) % 16, by omega, ?_, fun j hj => ?_⟩
  · have g : ∀ v, (upI μ 29 1 v).1 29 2 = nI U.length := fun v => by rw [rI, if_neg (by omega)]; exact h2
    rw [rI, if_pos ⟨rfl, rfl⟩, g, hl]
    exact e2
  · rw [rI, if_neg (by omega), rI, if_pos ⟨rfl, rfl⟩, h4]
    exact e1
  · rw [hl] at hj
    have q : ((nx + 1) % 16 + 15 - j) % 16 = (nx + 16 - j) % 16 := by omega
    rw [q]
    have hs : ∀ {a : Nat} {S : Rw}, RwC 30 a S μ → RwC 30 a S (upI (upI μ 29 1 (μ.1 29 1 + 1 - (μ.1 29 1 + 1) / 16 * 16)) 29 2 (if 15 < (upI μ 29 1 (μ.1 29 1 + 1 - (μ.1 29 1 + 1) / 16 * 16)).1 29 2 + 1 then 15 else (upI μ 29 1 (μ.1 29 1 + 1 - (μ.1 29 1 + 1) / 16 * 16)).1 29 2 + 1)) := fun z => z.same (fun i _ _ => by rw [rIc (by omega), rIc (by omega)])
    rcases j with _ | j
    · have : (nx + 16 - 0) % 16 = nx := by omega
      rw [this]
      exact hs h5
    · have e3 : ((R :: U).take 15).getD (j + 1) rw0 = U.getD j rw0 := by
        simp [List.getD, List.getElem?_take, show j < 14 by omega]
      rw [e3]
      have := h6 j (by omega)
      rw [show nx + 16 - (j + 1) = nx + 15 - j by omega]
      exact hs this
theorem M_putsBy (h : FlM 52 F μ) (hu : UnM U μ) : p_X12_putsBy μ ∧ PnM U (rowF F) (e_X12_putsBy μ) := by
  obtain ⟨h1, h2, h3⟩ := hu
  have key := lpI (f := fun s : Int32 × Mm => bd_X12_putsBy_2 s.1 s.2) (sd := fun s : Int32 × Mm => sd_X12_putsBy_2 s.1 s.2) (dd := fun s : Int32 × Mm => s.2)
    (I := fun i s => ∃ μ', s = (nI i, μ') ∧ i ≤ 24 ∧ Fr [61] μ μ' ∧ (∀ j, j < i → μ'.1 61 (24 * U.length + j) = μ.1 52 j) ∧ ∀ j, j < 24 * U.length → μ'.1 61 j = μ.1 61 j)
    (R := fun z => Fr [61] μ z ∧ (∀ j, j < 24 → z.1 61 (24 * U.length + j) = μ.1 52 j) ∧ ∀ j, j < 24 * U.length → z.1 61 j = μ.1 61 j) 24 (by omega) ?_ (s0 := (0, μ)) ⟨μ, rfl, Nat.zero_le _, Fr.rfl, fun j hj => absurd hj (by omega), fun _ _ => rfl⟩
  · obtain ⟨k1, k2, k3, k4⟩ := key
    unfold p_X12_putsBy e_X12_putsBy
    generalize whl _ _ FU _ = z at k2 k3 k4 ⊢
    refine ⟨k1, h1, by rw [k2.1 49 (by simp)]; exact h2, h.row.same (fun j hj => by rw [k3 j hj, Nat.zero_add]), fun j hj => (h3 j hj).same (fun i hi => k4 _ (by omega))⟩
  · rintro i _ hi ⟨μ', rfl, hi2, hf, hc, hs⟩
    dsimp only
    unfold sd_X12_putsBy_2 bd_X12_putsBy_2
    have e0 : (24 : Int32) * μ'.1 49 23 + nI i = nI (24 * U.length + i) := by rw [hf.1 49 (by simp), h2, show (24 : Int32) = nI 24 from rfl, nI_mul, nI_add]
    rw [e0, nI_1, show (24 : Int32) = nI 24 from rfl]
    simp only [nI_leI (show 24 < 2 ^ 31 by omega) (show i < 2 ^ 31 by omega), nI_clamp (show i < 2 ^ 31 by omega), nI_clamp (show 24 * U.length + i < 2 ^ 31 by omega)]
    rcases Nat.lt_or_ge i 24 with z | z
    · rw [if_neg (by omega)]
      refine ⟨fun _ => ⟨vp_in_nI (by omega) (by omega), vp_in_nI (by omega) (by omega)⟩, .inl ⟨_, rfl, z, _, rfl, by omega, hf.up (by simp), fun j hj => ?_, fun j hj => ?_⟩⟩
      · rw [rI, hf.1 52 (by simp)]
        by_cases e : j = i
        · subst e; rw [if_pos ⟨rfl, rfl⟩]
        · rw [if_neg (by omega)]; exact hc j (by omega)
      · rw [rI, if_neg (by omega)]; exact hs j hj
    · have e : i = 24 := by omega
      subst e
      rw [if_pos (by omega)]
      exact ⟨fun y => absurd (Nat.le_refl _) y, .inr ⟨_, rfl, hf, hc, hs⟩⟩
theorem M_adds (hu : PnM U R μ) (x : Int32) : p_X12_adds x μ ∧ v_X12_adds x μ = x ∧ UnM ((R :: U).take 15) (e_X12_adds x μ) := by
  obtain ⟨h1, h2, h3, h4⟩ := hu
  have hl : ((R :: U).take 15).length = min 15 (U.length + 1) := by simp; omega
  unfold p_X12_adds v_X12_adds e_X12_adds
  simp only [forall_eq]
  have e1 : (upI μ 49 23 (μ.1 49 23 + 1)).1 49 23 = nI (U.length + 1) := by rw [rI, if_pos ⟨rfl, rfl⟩, h2, nI_1]
  rw [e1, show (15 : Int32) = nI 15 from rfl]
  simp only [nI_leI (show U.length + 1 < 2 ^ 31 by omega) (show 15 < 2 ^ 31 by omega)]
  by_cases q : U.length + 1 ≤ 15
  · rw [if_pos q, if_pos q]
    refine ⟨fun z => absurd q z, rfl, by rw [hl]; omega, by rw [e1, hl, Nat.min_eq_right q], fun j hj => ?_⟩
    rw [hl] at hj ⊢
    have hs : ∀ {a : Nat} {S : Rw}, RwM 61 a S μ → RwM 61 a S (upI μ 49 23 (μ.1 49 23 + 1)) := fun z => z.same (fun i _ => by rw [rIc (by omega)])
    rcases j with _ | j
    · rw [show min 15 (U.length + 1) - 1 - 0 = U.length by omega]
      exact hs h3
    · have e3 : ((R :: U).take 15).getD (j + 1) rw0 = U.getD j rw0 := by
        simp [List.getD, List.getElem?_take, show j < 14 by omega]
      rw [e3, show min 15 (U.length + 1) - 1 - (j + 1) = U.length - 1 - j by omega]
      exact hs (h4 j (by omega))
  · rw [if_neg q, if_neg q]
    have hl15 : U.length = 15 := by omega
    have key := lpI (f := fun s : Int32 × Int32 × Mm => bd_X12_adds_21 s.1 s.2.1 s.2.2) (sd := fun s : Int32 × Int32 × Mm => sd_X12_adds_21 s.1 s.2.1 s.2.2) (dd := fun s : Int32 × Int32 × Mm => (0, s.2.2))
      (I := fun i s => ∃ μ', s = (x, nI i, μ') ∧ i ≤ 360 ∧ Fr [61] (upI μ 49 23 (μ.1 49 23 + 1)) μ' ∧ (∀ j, j < i → μ'.1 61 j = μ.1 61 (j + 24)) ∧ ∀ j, i ≤ j → μ'.1 61 j = μ.1 61 j)
      (R := fun z => z.1 = x ∧ Fr [61] (upI μ 49 23 (μ.1 49 23 + 1)) z.2 ∧ (∀ j, j < 360 → z.2.1 61 j = μ.1 61 (j + 24))) 360 (by omega) ?_ (s0 := (x, 0, upI μ 49 23 (μ.1 49 23 + 1))) ⟨_, rfl, Nat.zero_le _, Fr.rfl, fun j hj => absurd hj (by omega), fun _ _ => by rw [rIc (by omega)]⟩
    · obtain ⟨k1, k2, k3, k4⟩ := key
      generalize whl _ _ FU _ = z at k2 k3 k4 ⊢
      refine ⟨fun _ => k1, k2, by rw [hl]; omega, ?_, fun j hj => ?_⟩
      · rw [rI, if_pos ⟨rfl, rfl⟩, k3.1 49 (by simp), e1, hl, hl15, nI_pred]; rfl
      · rw [hl] at hj ⊢
        have hs : ∀ {a : Nat} {S : Rw}, 24 ≤ a → a < 384 - 23 → RwM 61 a S μ → RwM 61 (a - 24) S (upI z.2 49 23 (z.2.1 49 23 - 1)) := fun {a} _ h24 h25 y => y.same (fun i _ => by rw [rIc (by omega), k4 _ (by omega), show a - 24 + i + 24 = a + i by omega])
        rcases j with _ | j
        · have := hs (by omega) (by omega) h3
          rw [show 24 * (min 15 (U.length + 1) - 1 - 0) = 24 * U.length - 24 by omega]
          exact this
        · have e3 : ((R :: U).take 15).getD (j + 1) rw0 = U.getD j rw0 := by
            simp [List.getD, List.getElem?_take, show j < 14 by omega]
          rw [e3]
          have := hs (by omega) (by omega) (h4 j (by omega))
          rw [show 24 * (min 15 (U.length + 1) - 1 - (j + 1)) = 24 * (U.length - 1 - j) - 24 by omega]
          exact this
    · rintro i _ hi ⟨μ', rfl, hi2, hf, hc, hs⟩
      dsimp only
      unfold sd_X12_adds_21 bd_X12_adds_21
      have e0 : nI i + 24 = nI (i + 24) := by rw [show (24 : Int32) = nI 24 from rfl, nI_add]
      rw [e0, nI_1, show (360 : Int32) = nI 360 from rfl]
      simp only [nI_leI (show 360 < 2 ^ 31 by omega) (show i < 2 ^ 31 by omega), nI_clamp (show i < 2 ^ 31 by omega), nI_clamp (show i + 24 < 2 ^ 31 by omega)]
      rcases Nat.lt_or_ge i 360 with z | z
      · rw [if_neg (by omega)]
        refine ⟨fun _ => ⟨vp_in_nI (by omega) (by omega), vp_in_nI (by omega) (by omega)⟩, .inl ⟨_, rfl, z, _, rfl, by omega, hf.up (by simp), fun j hj => ?_, fun j hj => ?_⟩⟩
        · rw [rI, hs (i + 24) (by omega)]
          by_cases e : j = i
          · subst e; rw [if_pos ⟨rfl, rfl⟩]
          · rw [if_neg (by omega)]; exact hc j (by omega)
        · rw [rI, if_neg (by omega)]; exact hs j (by omega)
      · have e : i = 360 := by omega
        subst e
        rw [if_pos (by omega)]
        exact ⟨fun y => absurd (Nat.le_refl _) y, .inr ⟨_, rfl, rfl, hf, hc⟩⟩
/-! undone -/
theorem C_undo (h : FlC 1 F μ) (hu : UnC U μ) : p_X11_undo μ ∧ v_X11_undo μ = (if U.length = 0 then -1 else nI (U.length - 1)) ∧ FlC 1 (if U.length = 0 then F else putF F (U.getD 0 rw0)) (e_X11_undo μ) ∧ UnC (U.drop 1) (e_X11_undo μ) := by
  obtain ⟨h1, h2, nx, h3, h4, h6⟩ := hu
  unfold p_X11_undo v_X11_undo e_X11_undo p_X3_back v_X3_back e_X3_back
  rw [h2]
  by_cases q : U.length = 0
  · rw [q]
    have e : U = [] := List.length_eq_zero_iff.mp q
    subst e
    simp only [nI_0, if_true]
    exact ⟨fun z => absurd trivial z, trivial, h, by simp, h2, nx, h3, h4, fun j hj => absurd hj (by simp)⟩
  · have g : ¬ nI U.length = 0 := nI_ne0 (by omega) (by omega)
    rw [if_neg g, if_neg q, if_neg q, if_neg g]
    simp only [forall_eq, if_neg g, show ¬ ((1 : Int32) = 0) from by decide, if_false]
    have e1 : nI nx + 16 - 1 = nI (nx + 15) := by rw [show (16 : Int32) = nI 16 from rfl, nI_add, show (1 : Int32) = nI 1 from rfl, nI_sub (by omega)]; rfl
    have e2 : μ.1 29 1 + 16 - 1 - (μ.1 29 1 + 16 - 1) / 16 * 16 = nI ((nx + 15) % 16) := by rw [h4, e1, mod16 _ (by omega)]
    rw [e2]
    have e3 : (upI μ 29 1 (nI ((nx + 15) % 16))).1 29 2 - 1 = nI (U.length - 1) := by
      rw [rI, if_neg (by omega), h2, show U.length = (U.length - 1) + 1 by omega, nI_pred]; rfl
    rw [e3]
    have e4 : (upI (upI μ 29 1 (nI ((nx + 15) % 16))) 29 2 (nI (U.length - 1))).1 29 1 * 24 = nI (24 * ((nx + 15) % 16)) := by
      rw [rI, if_neg (by omega), rI, if_pos ⟨rfl, rfl⟩, show (24 : Int32) = nI 24 from rfl, nI_mul, Nat.mul_comm]
    rw [e4]
    obtain ⟨μ3, e5⟩ : ∃ z, z = upI (upI μ 29 1 (nI ((nx + 15) % 16))) 29 2 (nI (U.length - 1)) := ⟨_, rfl⟩
    rw [← e5]
    have f3 : Fr [29] μ μ3 := by rw [e5]; exact (Fr.rfl.up (by simp)).up (by simp)
    have hd := (h6 0 (by omega)).fr f3 (by simp)
    rw [Nat.sub_zero] at hd
    obtain ⟨p1, p2⟩ := C_readFrom (n0 := 384) (h.fr f3 (by simp)) hd (by omega) (by omega) (by omega)
    have f4 := fr_X1_readFrom 1 30 384 (nI (24 * ((nx + 15) % 16))) μ3
    generalize e_X1_readFrom 1 30 384 (nI (24 * ((nx + 15) % 16))) μ3 = z at p2 f4 ⊢
    have g1 : z.1 29 1 = nI ((nx + 15) % 16) := by rw [f4.1 29 (by simp), e5, rI, if_neg (by omega), rI, if_pos ⟨rfl, rfl⟩]
    have g2 : z.1 29 2 = nI (U.length - 1) := by rw [f4.1 29 (by simp), e5, rI, if_pos ⟨rfl, rfl⟩]
    refine ⟨fun _ => p1, g2, p2, by simp; omega, by rw [g2]; simp, (nx + 15) % 16, by omega, g1, fun j hj => ?_⟩
    have hj' : j < U.length - 1 := by simpa using hj
    have e6 : (U.drop 1).getD j rw0 = U.getD (j + 1) rw0 := by simp [List.getD, Nat.add_comm]
    rw [e6, show ((nx + 15) % 16 + 15 - j) % 16 = (nx + 15 - (j + 1)) % 16 by omega]
    exact ((h6 (j + 1) (by omega)).fr f3 (by simp)).fr f4 (by simp)
theorem M_undo (h : FlM 52 F μ) (hu : UnM U μ) : p_X12_undo μ ∧ v_X12_undo μ = (if U.length = 0 then -1 else nI (U.length - 1)) ∧ FlM 52 (if U.length = 0 then F else putF F (U.getD 0 rw0)) (e_X12_undo μ) ∧ UnM (U.drop 1) (e_X12_undo μ) := by
  obtain ⟨h1, h2, h3⟩ := hu
  unfold p_X12_undo v_X12_undo e_X12_undo
  simp only [forall_eq]
  have e1 : (upI μ 49 0 0).1 49 23 = nI U.length := by rw [rI, if_neg (by omega)]; exact h2
  have h' : FlM 52 F (upI μ 49 0 0) := h.up (by omega)
  rw [e1]
  have hs : ∀ {a : Nat} {S : Rw}, RwM 61 a S μ → RwM 61 a S (upI μ 49 0 0) := fun z => z.same (fun i _ => by rw [rIc (by omega)])
  by_cases q : U.length = 0
  · rw [q]
    have e : U = [] := List.length_eq_zero_iff.mp q
    subst e
    simp only [nI_0, if_true]
    exact ⟨fun z => absurd trivial z, trivial, h', by simp, e1, fun j hj => absurd hj (by simp)⟩
  · have g : ¬ nI U.length = 0 := nI_ne0 (by omega) (by omega)
    have e3 : nI U.length - 1 = nI (U.length - 1) := by
      rw [show U.length = (U.length - 1) + 1 by omega, nI_pred]; rfl
    rw [if_neg g, if_neg q, if_neg q, if_neg g, e3]
    have h'' : FlM 52 F (upI (upI μ 49 0 0) 49 23 (nI (U.length - 1))) := h'.up (by omega)
    obtain ⟨μ3, e5⟩ : ∃ z, z = upI (upI μ 49 0 0) 49 23 (nI (U.length - 1)) := ⟨_, rfl⟩
    rw [← e5] at h'' ⊢
    have g3 : μ3.1 49 23 = nI (U.length - 1) := by rw [e5, rI, if_pos ⟨rfl, rfl⟩]
    have g4 : μ3.1 61 = μ.1 61 := by rw [e5, rIc (by omega), rIc (by omega)]
    have key := lpI (f := fun s : Int32 × Mm => bd_X12_undo_26 s.1 s.2) (sd := fun s : Int32 × Mm => sd_X12_undo_26 s.1 s.2) (dd := fun s : Int32 × Mm => s.2)
      (I := fun i s => ∃ μ', s = (nI i, μ') ∧ i ≤ 24 ∧ Fr [52] μ3 μ' ∧ (∀ j, j < i → μ'.1 52 j = μ.1 61 (24 * (U.length - 1) + j)))
      (R := fun z => Fr [52] μ3 z ∧ (∀ j, j < 24 → z.1 52 j = μ.1 61 (24 * (U.length - 1) + j))) 24 (by omega) ?_ (s0 := (0, μ3)) ⟨_, rfl, Nat.zero_le _, Fr.rfl, fun j hj => absurd hj (by omega)⟩
    · obtain ⟨k1, k2, k3⟩ := key
      generalize whl _ _ FU _ = z at k2 k3 ⊢
      refine ⟨fun _ => k1, ?_, ?_, by simp; omega, ?_, fun j hj => ?_⟩
      · rw [k2.1 49 (by simp), g3]
      · have h30 := h3 0 (by omega)
        refine RwM.fl (h30.same (fun j hj => by rw [Nat.zero_add, k3 j hj, Nat.sub_zero])) h.1 ?_ (fun i hi => ?_)
        · rw [k2.1 49 (by simp)]; exact h''.sz
        · rw [k2.1 51 (by simp)]; exact h''.w hi
      · rw [k2.1 49 (by simp), g3]; simp
      · have hj' : j < U.length - 1 := by simpa using hj
        have e6 : (U.drop 1).getD j rw0 = U.getD (j + 1) rw0 := by simp [List.getD, Nat.add_comm]
        rw [e6]
        have := h3 (j + 1) (by omega)
        refine this.same (fun i hi => ?_)
        rw [k2.1 61 (by simp), g4]
        rw [show 24 * ((List.drop 1 U).length - 1 - j) = 24 * (U.length - 1 - (j + 1)) by simp only [List.length_drop]; omega]
    · rintro i _ hi ⟨μ', rfl, hi2, hf, hc⟩
      dsimp only
      unfold sd_X12_undo_26 bd_X12_undo_26
      have e0 : (24 : Int32) * μ'.1 49 23 + nI i = nI (24 * (U.length - 1) + i) := by rw [hf.1 49 (by simp), g3, show (24 : Int32) = nI 24 from rfl, nI_mul, nI_add]
      rw [e0, nI_1, show (24 : Int32) = nI 24 from rfl]
      simp only [nI_leI (show 24 < 2 ^ 31 by omega) (show i < 2 ^ 31 by omega), nI_clamp (show i < 2 ^ 31 by omega), nI_clamp (show 24 * (U.length - 1) + i < 2 ^ 31 by omega)]
      rcases Nat.lt_or_ge i 24 with z | z
      · rw [if_neg (by omega)]
        refine ⟨fun _ => ⟨vp_in_nI (by omega) (by omega), vp_in_nI (by omega) (by omega)⟩, .inl ⟨_, rfl, z, _, rfl, by omega, hf.up (by simp), fun j hj => ?_⟩⟩
        rw [rI, hf.1 61 (by simp), g4]
        by_cases e : j = i
        · subst e; rw [if_pos ⟨rfl, rfl⟩]
        · rw [if_neg (by omega)]; exact hc j (by omega)
      · have e : i = 24 := by omega
        subst e
        rw [if_pos (by omega)]
        exact ⟨fun y => absurd (Nat.le_refl _) y, .inr ⟨_, rfl, hf, hc⟩⟩
end UN

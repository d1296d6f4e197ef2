/-! what a morning's acts do -/
section MO
variable {T : List Nat} {e : Nat} {σ : ST} {R : List Int64} {μ : Mm}
theorem AcM.same {k : Nat} {μ' : Mm} (h : AcM T k μ) (h1 : μ'.1 63 k = μ.1 63 k) (h2 : μ'.1 64 k = μ.1 64 k) (h3 : μ'.1 65 k = μ.1 65 k) : AcM T k μ' := by
  unfold AcM
  rw [h1, h2, h3]; exact h
theorem M_mo19 (hm : MSR σ R μ) (hr : Rd T 0 e μ) (hT : ∀ i, chT T i < 256) (he : e ≤ 60) (h29 : μ.1 49 29 = nI 0) (x : Int32) : whP (fun s : Int32 × Int32 × Mm => bd_X12_morning_19 s.1 s.2.1 s.2.2) (fun s : Int32 × Int32 × Mm => sd_X12_morning_19 s.1 s.2.1 s.2.2) FU (x, 1, μ) ∧ (fun z : Int32 × Int32 × Mm => z.1 = x ∧ MSR σ R z.2.2 ∧ ∃ b k, EnA T e b k ∧ Rd T b e z.2.2 ∧ ((z.2.1 = 1 ∧ b = e ∧ sA T k = e ∧ (z.2.2).1 49 29 = nI k ∧ ∀ j, j < k → AcM T j z.2.2) ∨ (z.2.1 = 0 ∧ ¬ sA T k = e))) (whl (fun s : Int32 × Int32 × Mm => bd_X12_morning_19 s.1 s.2.1 s.2.2) (fun s : Int32 × Int32 × Mm => (0, 0, s.2.2)) FU (x, 1, μ)) := by
  refine lpI (f := fun s : Int32 × Int32 × Mm => bd_X12_morning_19 s.1 s.2.1 s.2.2) (sd := fun s : Int32 × Int32 × Mm => sd_X12_morning_19 s.1 s.2.1 s.2.2) (dd := fun s : Int32 × Int32 × Mm => (0, 0, s.2.2)) (I := fun i s => (∃ μ', s = (x, 1, μ') ∧ MSR σ R μ' ∧ Rd T (sA T i) e μ' ∧ VdA T (sA T i) ∧ μ'.1 49 29 = nI i ∧ ∀ j, j < i → AcM T j μ') ∨ (∃ μ', s = (x, 0, μ') ∧ MSR σ R μ' ∧ ∃ b k, EnA T e b k ∧ Rd T b e μ' ∧ ¬ sA T k = e))
    (R := fun z : Int32 × Int32 × Mm => z.1 = x ∧ MSR σ R z.2.2 ∧ ∃ b k, EnA T e b k ∧ Rd T b e z.2.2 ∧ ((z.2.1 = 1 ∧ b = e ∧ sA T k = e ∧ (z.2.2).1 49 29 = nI k ∧ ∀ j, j < k → AcM T j z.2.2) ∨ (z.2.1 = 0 ∧ ¬ sA T k = e))) 62 (by omega) ?_ (s0 := (x, 1, μ)) (.inl ⟨μ, rfl, hm, hr, fun _ j hj => absurd hj (by show ¬ j < 0; omega), h29, fun j hj => absurd hj (by omega)⟩)
  rintro i _ hi (⟨μ', rfl, hm', hr', hv, hk, hac⟩ | ⟨μ', rfl, hm', b, k, h1, h2, h3⟩)
  · dsimp only
    unfold sd_X12_morning_19 bd_X12_morning_19
    have hle := hr'.2.2.1
    have hge := sA_ge T i
    rw [if_neg (show ¬ ((1 : Int32) = 0) by decide)]
    simp only [hr'.le]
    by_cases q : e ≤ sA T i
    · have ee : sA T i = e := by omega
      rw [if_pos q]
      refine ⟨fun _ y => absurd q y, .inr ⟨_, rfl, rfl, hm', e, i, ⟨Nat.le_refl _, hle, ?_, by rw [← ee]; exact hv, fun y => absurd y (Nat.lt_irrefl _)⟩, by rw [show e = sA T i from ee.symm] at hr' ⊢; exact hr', .inl ⟨rfl, rfl, ee, hk, hac⟩⟩⟩
      have := sA_lt T i; omega
    · rw [if_neg q]
      obtain ⟨a1, a2, a3, a4⟩ := R_act hr' hT (by omega) hv (by omega) hk
      have f4 := fs_X12_readsAct μ'
      have hm4 : MSR σ R (e_X12_readsAct μ') := ⟨hm'.1.fs f4 (by decide), hm'.2.fs f4 (by decide)⟩
      refine ⟨fun _ _ => a1, .inl ⟨_, rfl, by omega, ?_⟩⟩
      rcases a2 with ⟨v1, r1, d1, c1⟩ | ⟨v1, b, r1, d1, c1⟩
      · rw [v1]
        refine .inl ⟨_, rfl, hm4, r1, d1, a3, fun j hj => ?_⟩
        by_cases w : j = i
        · rw [w]; exact c1
        · obtain ⟨g1, g2, g3⟩ := a4 j (by omega)
          exact (hac j (by omega)).same g1 g2 g3
      · rw [v1]
        exact .inr ⟨_, rfl, hm4, b, i, d1, r1, c1⟩
  · dsimp only
    unfold sd_X12_morning_19 bd_X12_morning_19
    rw [if_pos rfl]
    exact ⟨fun y => absurd rfl y, .inr ⟨_, rfl, rfl, hm', b, k, h1, h2, .inr ⟨rfl, h3⟩⟩⟩
theorem M_faultA {b k : Nat} {f : Int32} (hl2 : T.length ≤ 80) (he : e = min 60 T.length) (hr : Rd T b e μ) (hE : EnA T e b k) (hb : (f = 1 ∧ b = e ∧ sA T k = e) ∨ (f = 0 ∧ ¬ sA T k = e)) : v_X12_faultOf (nI T.length) 60 f μ = if T.length ≤ 60 ∧ sA T k = T.length then 0 else -1 - nI b := by
  obtain ⟨h1, h2, h3, h4, h5, -⟩ := hr
  have g60 : (nI T.length ≤ 60) ↔ T.length ≤ 60 := nI_leI (b := 60) (by omega) (by omega)
  have gl : (nI b < 60) ↔ b < 60 := nI_ltI (b := 60) (by omega) (by omega)
  have ge : (nI b = nI e) ↔ b = e := nI_eq (by omega) (by omega)
  have n60 : nI 60 = 60 := rfl
  have hsb := hE.2.1
  unfold v_X12_faultOf
  rw [h4, h5]
  simp only [g60, gl, ge]
  generalize hV : (-1 : Int32) - nI b = V
  rcases hb with ⟨f1, b1, s1⟩ | ⟨f0, s0⟩
  · rw [f1, if_neg (show ¬ ((1 : Int32) = 0) by decide), if_pos b1, if_neg (show ¬ ((1 : Int32) = 0) by decide), if_neg (show ¬ ((1 : Int32) = 0) by decide)]
    by_cases w : T.length ≤ 60
    · rw [if_pos w, if_pos ⟨w, by omega⟩]
    · rw [if_neg w, if_neg (show ¬ (T.length ≤ 60 ∧ sA T k = T.length) from fun y => w y.1), ← hV, show b = 60 by omega, n60]
  · rw [f0, if_pos rfl, if_pos rfl, if_pos rfl]
    by_cases w : T.length ≤ 60
    · rw [if_pos w, if_neg (fun y => s0 (by omega))]
    · rw [if_neg w, if_neg (show ¬ (T.length ≤ 60 ∧ sA T k = T.length) from fun y => w y.1)]
      by_cases y : b < 60
      · rw [if_pos y]
      · rw [if_neg y, ← hV, show b = 60 by omega, n60]
def aF (r : List Nat) (T : List Nat) (F : FL) (a : Nat) : FL := if chT T a = 108 then leadF F (dgI T (a + 1)) (a2V T a) else if chT T a = 110 then goA r (dgI T (a + 1)).toNatClampNeg F else if chT T a = 111 then stepF F (dgI T (a + 1)) else if chT T a = 115 then sackF F (dgI T (a + 1)) (a2V T a) else turnF F (dgI T (a + 1)) (a2V T a)
def aV (r : List Nat) (T : List Nat) (F : FL) (a : Nat) : Int32 := if chT T a = 108 then leadV F (dgI T (a + 1)) (a2V T a) else if chT T a = 110 then wkA r (dgI T (a + 1)).toNatClampNeg F else if chT T a = 111 then stepV F (dgI T (a + 1)) else if chT T a = 115 then sackV F (dgI T (a + 1)) (a2V T a) else turnV F (dgI T (a + 1)) (a2V T a)
def fA (r : List Nat) (T : List Nat) (F : FL) : Nat → FL
  | 0 => F
  | j + 1 => aF r T (fA r T F j) (sA T j)
theorem aF_ok {r : List Nat} {F : FL} (hg : RgF F) (a : Nat) : RgF (aF r T F a) ∧ f_n (aF r T F a) = f_n F := by
  unfold aF
  by_cases c1 : chT T a = 108
  · rw [if_pos c1]; exact ⟨RgF_lead hg _ _, lead_n _ _ _⟩
  · rw [if_neg c1]
    by_cases c2 : chT T a = 110
    · rw [if_pos c2]; exact ⟨RgF_go hg _, go_n _⟩
    · rw [if_neg c2]
      by_cases c3 : chT T a = 111
      · rw [if_pos c3]; exact ⟨RgF_step hg _, step_n _ _⟩
      · rw [if_neg c3]
        by_cases c4 : chT T a = 115
        · rw [if_pos c4]; exact ⟨RgF_sack hg _ _, sack_n _ _ _⟩
        · rw [if_neg c4]; exact ⟨RgF_turn hg _ _, turn_n _ _ _⟩
theorem fA_ok {r : List Nat} {F : FL} (hg : RgF F) : ∀ j, RgF (fA r T F j) ∧ f_n (fA r T F j) = f_n F
  | 0 => ⟨hg, rfl⟩
  | j + 1 => by
    obtain ⟨h1, h2⟩ := fA_ok (r := r) hg j
    obtain ⟨h3, h4⟩ := aF_ok (T := T) (r := r) h1 (sA T j)
    exact ⟨h3, h4.trans h2⟩
theorem sm_nn {g : Nat → Int32} {B : Nat} : ∀ {n : Nat}, n * B < 2147483648 → (∀ i, i < n → 0 ≤ (g i).toInt ∧ (g i).toInt ≤ B) → 0 ≤ (sm g n).toInt ∧ (sm g n).toInt ≤ ((n * B : Nat) : Int)
  | 0, _, _ => by
    show 0 ≤ (0 : Int32).toInt ∧ (0 : Int32).toInt ≤ ((0 * B : Nat) : Int)
    rw [t0, Nat.zero_mul]; omega
  | n + 1, hb, h => by
    rw [Nat.succ_mul] at hb ⊢
    have ih := sm_nn (g := g) (B := B) (n := n) (by omega) (fun i hi => h i (by omega))
    have hn := h n (by omega)
    show 0 ≤ (sm g n + g n).toInt ∧ (sm g n + g n).toInt ≤ ((n * B + B : Nat) : Int)
    generalize n * B = m at *
    rw [toInt_addS (by omega)]
    omega
theorem wkA_nn {r : List Nat} {F : FL} (hn : f_n F ≤ 7) {n : Nat} (h9 : n ≤ 9) : ¬ (wkA r n F < 0) := by
  have : 0 ≤ (wkA r n F).toInt ∧ (wkA r n F).toInt ≤ ((n * 7 : Nat) : Int) := by
    unfold wkA
    refine sm_nn (by omega) (fun i _ => ?_)
    have h2 : 0 ≤ (wlkA r (goA r i F)).toInt ∧ (wlkA r (goA r i F)).toInt ≤ ((f_n (goA r i F) * 1 : Nat) : Int) := by
      unfold wlkA
      have hni : f_n (goA r i F) = f_n F := go_n i
      refine sm_nn (by omega) (fun k _ => ?_)
      by_cases y : wayA r (goA r i F) (momA (goA r i F)) k = 0
      · rw [if_pos y, t0]; omega
      · rw [if_neg y, t1]; omega
    have hni : f_n (goA r i F) = f_n F := go_n i
    omega
  rw [fa_lt, t0]; omega
/-- what stands in act k -/
theorem act_c {k : Nat} (hv : VdA T (sA T (k + 1))) : (chT T (sA T k) = 108 ∧ aln (chT T (sA T k)) = 4) ∨ (chT T (sA T k) = 110 ∧ aln (chT T (sA T k)) = 2) ∨ (chT T (sA T k) = 111 ∧ aln (chT T (sA T k)) = 2) ∨ (chT T (sA T k) = 115 ∧ aln (chT T (sA T k)) = 3) ∨ (chT T (sA T k) = 116 ∧ aln (chT T (sA T k)) = 4) := by
  have h := hv k (sA T k) (sA_lt T k) (Nat.le_refl _) (sA_lt T k)
  unfold stA at h
  rw [if_pos rfl, decide_eq_true_eq] at h
  cases hq : kdA (chT T (sA T k)) with
  | none => rw [kdA_n hq] at h; omega
  | some q => have := kdA_l hq; omega
theorem C_act {r : List Nat} {F : FL} {k : Nat} (hf : FlC 1 F μ) (hr : RuC 15 r μ) (hg : RgF F) (hx : TxC T μ) (hT : ∀ i, chT T i < 256) (hk : sA T (k + 1) ≤ T.length) (hv : VdA T (sA T (k + 1))) : p_X11_act (nI (sA T k)) μ ∧ v_X11_act (nI (sA T k)) μ = aV r T F (sA T k) ∧ FlC 1 (aF r T F (sA T k)) (e_X11_act (nI (sA T k)) μ) := by
  have hc := act_c hv
  have hl := hx.1
  have es := sA_s T k
  obtain ⟨a1, a2⟩ := C_at hx hT (i := sA T k) (by omega)
  obtain ⟨b1, b2⟩ := C_at hx hT (i := sA T k + 1) (by omega)
  have ca := hT (sA T k)
  have n1 : nI (sA T k) + 1 = nI (sA T k + 1) := nI_1 _
  have n2 : nI (sA T k) + 2 = nI (sA T k + 2) := by rw [show (2 : Int32) = nI 2 from rfl, nI_add]
  have ed : v_X9_digit (nI (sA T k + 1)) μ = dgI T (sA T k + 1) := by unfold v_X9_digit; rw [b2]; rfl
  have d2 : 3 ≤ aln (chT T (sA T k)) → p_X9_digit (nI (sA T k + 2)) μ ∧ v_X9_digit (nI (sA T k + 2)) μ = dgI T (sA T k + 2) := fun y => by
    obtain ⟨c1, c2⟩ := C_at hx hT (i := sA T k + 2) (by omega)
    exact ⟨c1, by unfold v_X9_digit; rw [c2]; rfl⟩
  have sg : ∀ m, m < 256 → aln (chT T (sA T k)) = 4 → p_X9_signed (nI (sA T k + 2)) (nI m) μ ∧ v_X9_signed (nI (sA T k + 2)) (nI m) μ = if chT T (sA T k + 2) = m then -dgI T (sA T k + 3) else dgI T (sA T k + 3) := fun m hm y => by
    obtain ⟨c1, c2⟩ := C_at hx hT (i := sA T k + 2) (by omega)
    obtain ⟨c3, c4⟩ := C_at hx hT (i := sA T k + 3) (by omega)
    have n3 : nI (sA T k + 2) + 1 = nI (sA T k + 3) := nI_1 _
    unfold p_X9_signed v_X9_signed p_X9_digit v_X9_digit
    have c2' := hT (sA T k + 2)
    rw [n3, c2, c4]
    simp only [nI_eq (show chT T (sA T k + 2) < 2 ^ 31 by omega) (show m < 2 ^ 31 by omega)]
    exact ⟨⟨c1, fun _ => c3, fun _ => c3⟩, rfl⟩
  have m119 : nI 119 = 119 := rfl
  have m45 : nI 45 = 45 := rfl
  have c108 : (nI (chT T (sA T k)) = 108) ↔ chT T (sA T k) = 108 := nI_eq (b := 108) (by omega) (by omega)
  have c109 : (nI (chT T (sA T k)) = 109) ↔ chT T (sA T k) = 109 := nI_eq (b := 109) (by omega) (by omega)
  have c110 : (nI (chT T (sA T k)) = 110) ↔ chT T (sA T k) = 110 := nI_eq (b := 110) (by omega) (by omega)
  have c111 : (nI (chT T (sA T k)) = 111) ↔ chT T (sA T k) = 111 := nI_eq (b := 111) (by omega) (by omega)
  have c112 : (nI (chT T (sA T k)) = 112) ↔ chT T (sA T k) = 112 := nI_eq (b := 112) (by omega) (by omega)
  have c113 : (nI (chT T (sA T k)) = 113) ↔ chT T (sA T k) = 113 := nI_eq (b := 113) (by omega) (by omega)
  have c114 : (nI (chT T (sA T k)) = 114) ↔ chT T (sA T k) = 114 := nI_eq (b := 114) (by omega) (by omega)
  have c115 : (nI (chT T (sA T k)) = 115) ↔ chT T (sA T k) = 115 := nI_eq (b := 115) (by omega) (by omega)
  have c116 : (nI (chT T (sA T k)) = 116) ↔ chT T (sA T k) = 116 := nI_eq (b := 116) (by omega) (by omega)
  unfold p_X11_act v_X11_act e_X11_act aV aF
  rw [n1, n2, a2, ed]
  simp only [c108, c109, c110, c111, c112, c113, c114, c115, c116]
  refine ⟨⟨b1, a1, fun y => ?_, fun _ _ => ⟨fun y => (C_go hf hr hg (.inl rfl) (.inl rfl) _).1, fun _ _ _ _ _ => ⟨fun y => ?_, fun _ y => ?_⟩⟩⟩, ?_⟩
  · obtain ⟨s1, s2⟩ := sg 119 (by omega) (by omega)
    rw [m119] at s1
    exact ⟨s1, (C_lead hf _ _).1⟩
  · exact ⟨(d2 (by omega)).1, (C_burden hf _ _).1⟩
  · obtain ⟨s1, s2⟩ := sg 45 (by omega) (by omega)
    rw [m45] at s1
    exact ⟨s1, (C_turn hf _ _).1⟩
  · rcases hc with ⟨c, l⟩ | ⟨c, l⟩ | ⟨c, l⟩ | ⟨c, l⟩ | ⟨c, l⟩
    · obtain ⟨s1, s2⟩ := sg 119 (by omega) l
      rw [m119] at s2
      have e2 : v_X9_signed (nI (sA T k + 2)) 119 μ = a2V T (sA T k) := by
        rw [s2]; unfold a2V; rw [if_neg (show ¬ chT T (sA T k) = 115 by omega), if_pos c]
      rw [if_pos c, if_pos c, if_pos c, if_pos c, e2]
      exact (C_lead hf _ _).2
    · rw [if_neg (show ¬ chT T (sA T k) = 108 by omega), if_neg (show ¬ chT T (sA T k) = 108 by omega), if_neg (show ¬ chT T (sA T k) = 108 by omega), if_neg (show ¬ chT T (sA T k) = 108 by omega), if_neg (show ¬ chT T (sA T k) = 109 by omega), if_neg (show ¬ chT T (sA T k) = 109 by omega), if_pos c, if_pos c, if_pos c, if_pos c]
      exact (C_go hf hr hg (.inl rfl) (.inl rfl) _).2
    · simp (disch := omega) only [if_neg, if_pos c]
      exact C_step hf _
    · have e2 : v_X9_digit (nI (sA T k + 2)) μ = a2V T (sA T k) := by
        rw [(d2 (by omega)).2]; unfold a2V; rw [if_pos c]
      simp (disch := omega) only [if_neg, if_pos c, e2]
      exact (C_burden hf _ _).2
    · obtain ⟨s1, s2⟩ := sg 45 (by omega) l
      rw [m45] at s2
      have e2 : v_X9_signed (nI (sA T k + 2)) 45 μ = a2V T (sA T k) := by
        rw [s2]; unfold a2V; rw [if_neg (show ¬ chT T (sA T k) = 115 by omega), if_neg (show ¬ chT T (sA T k) = 108 by omega)]
      simp (disch := omega) only [if_neg, if_pos c, e2]
      exact (C_turn hf _ _).2
theorem lt01 {v : Int32} : (if v < 0 then (0 : Int32) else 1) = 0 ↔ v < 0 := by
  by_cases y : v < 0
  · simp [y]
  · simp [y]
theorem M_does {r : List Nat} {F : FL} {k : Nat} (hf : FlM 52 F μ) (hl : r.length ≤ 40) (hw : wfd r 0) (hr : RuM r μ) (hg : RgF F) (hT : ∀ i, chT T i < 256) (hac : AcM T k μ) (hk : k < 60) (hd : isD T (sA T k + 1) e 0 9 = true) : p_X12_does (nI k) μ ∧ ((v_X12_does (nI k) μ = 0) ↔ aV r T F (sA T k) < 0) ∧ FlM 52 (aF r T F (sA T k)) (e_X12_does (nI k) μ) := by
  obtain ⟨q, q1, q2, q3, q4⟩ := hac
  have hq := kdA_l q1
  obtain ⟨d1, d2⟩ := dgI_N hT hd
  have vk : vp_in (nI k) 60 := vp_in_nI hk (by omega)
  unfold p_X12_does v_X12_does e_X12_does aV aF
  rw [nI_clamp (show k < 2 ^ 31 by omega), q2, q3]
  have c0 : (nI q = 0) ↔ q = 0 := nI_eq (b := 0) (by omega) (by omega)
  have c1 : (nI q = 1) ↔ q = 1 := nI_eq (b := 1) (by omega) (by omega)
  have c2 : (nI q = 2) ↔ q = 2 := nI_eq (b := 2) (by omega) (by omega)
  have c3 : (nI q = 3) ↔ q = 3 := nI_eq (b := 3) (by omega) (by omega)
  simp only [c0, c1, c2, c3]
  refine ⟨⟨vk, vk, fun y => (M_goesOn hf hl hw hr hg (.inl rfl) _).1, fun _ _ => ⟨fun y => ⟨vk, (M_sack hf _ _).1⟩, fun _ => ⟨fun y => ⟨vk, (M_lead hf _ _).1⟩, fun _ => ⟨vk, (M_turn hf _ _).1⟩⟩⟩⟩, ?_⟩
  rcases hq with ⟨c, l, -⟩ | ⟨c, l, -⟩ | ⟨c, l, -⟩ | ⟨c, l, -⟩ | ⟨c, l, -⟩
  · simp (disch := omega) only [if_neg, if_pos c, if_pos l]
    refine ⟨⟨fun y => absurd y (by decide), fun y => absurd y (wkA_nn hg.1 ?_)⟩, (M_goesOn hf hl hw hr hg (.inl rfl) _).2.2⟩
    rw [d1, nI_clamp (by omega)]; exact d2
  · simp (disch := omega) only [if_neg, if_pos c, if_pos l]
    obtain ⟨s1, s2⟩ := M_step hf (.inl rfl) (dgI T (sA T k + 1))
    rw [s1]
    exact ⟨lt01, s2⟩
  · rw [q4 (by omega)]
    simp (disch := omega) only [if_neg, if_pos c, if_pos l]
    obtain ⟨-, s1, s2⟩ := M_sack hf (dgI T (sA T k + 1)) (a2V T (sA T k))
    rw [s1]
    exact ⟨lt01, s2⟩
  · rw [q4 (by omega)]
    simp (disch := omega) only [if_neg, if_pos c, if_pos l]
    obtain ⟨-, s1, s2⟩ := M_lead hf (dgI T (sA T k + 1)) (a2V T (sA T k))
    rw [s1]
    exact ⟨lt01, s2⟩
  · rw [q4 (by omega)]
    simp (disch := omega) only [if_neg]
    obtain ⟨-, s1, s2⟩ := M_turn hf (dgI T (sA T k + 1)) (a2V T (sA T k))
    rw [s1]
    exact ⟨lt01, s2⟩
end MO

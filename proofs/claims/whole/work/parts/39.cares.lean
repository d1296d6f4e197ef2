/-! what was seen -/
def sgA (S : List Sg) (j : Nat) : Sg := S.getD j (0, 0, 0)
def agN (S : List Sg) (n : Nat) (G : FL) : Nat → Bool
  | 0 => true
  | j + 1 => agN S n G j && (!decide ((sgA S j).2.1 = nI n) || decide (f_p G (sgA S j).1.toNatClampNeg = (sgA S j).2.2))
theorem agN_no {S : List Sg} {n : Nat} {G : FL} {j : Nat} (h : agN S n G j = false) : ∀ m, j ≤ m → agN S n G m = false
  | 0, hm => by rw [show j = 0 by omega] at h; exact h
  | m + 1, hm => by
    by_cases e : j = m + 1
    · rw [← e]; exact h
    · unfold agN
      rw [agN_no h m (by omega), Bool.false_and]
def agA (S : List Sg) (n : Nat) (G : FL) : Bool := agN S n G S.length
def wiG (σ : ST) (k w n : Nat) : FL := goA (s_r σ) n (setH (s_F σ) k (pl w))
def asW (σ : ST) (k w : Nat) : Nat → Bool
  | 0 => true
  | n + 1 => asW σ k w n && agA (s_S σ) n (wiG σ k w n)
theorem asW_no {σ : ST} {k w j : Nat} (h : asW σ k w j = false) : ∀ m, j ≤ m → asW σ k w m = false
  | 0, hm => by rw [show j = 0 by omega] at h; exact h
  | m + 1, hm => by
    by_cases e : j = m + 1
    · rw [← e]; exact h
    · unfold asW
      rw [asW_no h m (by omega), Bool.false_and]
theorem wiG_n {σ : ST} {k w : Nat} (n : Nat) : f_n (wiG σ k w n) = f_n (s_F σ) := go_n n
theorem OK.sg {σ : ST} (ok : OK σ) {j : Nat} (hj : j < (s_S σ).length) : (sgA (s_S σ) j).1.toNatClampNeg < f_n (s_F σ) ∧ (sgA (s_S σ) j).1 = nI (sgA (s_S σ) j).1.toNatClampNeg ∧ ∃ n, n ≤ 20 ∧ (sgA (s_S σ) j).2.1 = nI n := by
  have hm : sgA (s_S σ) j ∈ s_S σ := by
    unfold sgA
    rw [List.getD_eq_getElem?_getD, List.getElem?_eq_getElem hj]
    exact List.getElem_mem hj
  obtain ⟨a, b, c⟩ := ok.2.2.2.2.2.1 _ hm
  obtain ⟨h1, h2⟩ := hasF_cl ok.g.1 a
  have h3 := of_decide_eq_true b
  exact ⟨h1, h2, (sgA (s_S σ) j).2.1.toInt.toNat, by omega, by rw [fa_eq, nI_toInt (by omega)]; omega⟩
theorem nb01 (c : Prop) [Decidable c] : narrow .boolean (.int (if c then 1 else 0)) = .int (if c then 1 else 0) := by
  by_cases q : c
  · rw [if_pos q]; rfl
  · rw [if_neg q]; rfl
theorem hasF_i {F : FL} {i : Nat} (hn : f_n F ≤ 7) (hi : i < f_n F) : hasF F (nI i) = true := by
  refine decide_eq_true ⟨?_, (nI_ltI (by omega) (by omega)).mpr hi⟩
  rw [fa_le, t0, nI_toInt (by omega)]; omega
section CA
variable {σ : ST} {G : FL} {R : List Int64} {μ : Mm}
theorem C_agree (h : CTR σ G R μ) (hG : f_n G = f_n (s_F σ)) {n : Nat} : p_X6_agree (nI n) 8 μ ∧ v_X6_agree (nI n) 8 μ = if agA (s_S σ) n G then 1 else 0 := by
  have hS := h.2.2.1.S
  have hn := h.1.g.1
  have hl := hS.1
  refine lpI (f := fun s : Int32 × Int32 => bd_X6_agree_2 8 μ s.1 s.2) (sd := fun s : Int32 × Int32 => sd_X6_agree_2 8 μ s.1 s.2) (dd := fun _ : Int32 × Int32 => 0) (I := fun j s => j ≤ (s_S σ).length ∧ s = (nI n, nI j) ∧ agN (s_S σ) n G j = true) (R := fun z => z = if agA (s_S σ) n G then 1 else 0) (s_S σ).length (by omega) ?_ ⟨Nat.zero_le _, rfl, rfl⟩
  rintro j _ hj ⟨hj2, rfl, ha⟩
  dsimp only
  unfold sd_X6_agree_2 bd_X6_agree_2
  rw [hS.2.1, nI_1]
  simp only [nI_leI (show (s_S σ).length < 2 ^ 31 by omega) (show j < 2 ^ 31 by omega), nI_clamp (show j < 2 ^ 31 by omega)]
  rcases Nat.lt_or_ge j (s_S σ).length with z | z
  · obtain ⟨e1, e2, e3⟩ := hS.2.2 j z
    have e1' : μ.1 39 j = (sgA (s_S σ) j).1 := e1
    have e2' : μ.1 40 j = (sgA (s_S σ) j).2.1 := e2
    have e3' : μ.1 41 j = (sgA (s_S σ) j).2.2 := e3
    obtain ⟨g1, g2, -⟩ := h.1.sg z
    obtain ⟨p1, v1⟩ := C_placeOf h.2.2.2.1 (i := (sgA (s_S σ) j).1.toNatClampNeg) (by omega)
    rw [← g2] at p1 v1
    rw [if_neg (show ¬ (s_S σ).length ≤ j by omega), e1', e2', e3', v1]
    have es : agN (s_S σ) n G (j + 1) = (agN (s_S σ) n G j && (!decide ((sgA (s_S σ) j).2.1 = nI n) || decide (f_p G (sgA (s_S σ) j).1.toNatClampNeg = (sgA (s_S σ) j).2.2))) := rfl
    rw [ha, Bool.true_and] at es
    refine ⟨fun _ => ⟨vp_in_nI (by omega) (by omega), fun _ => ⟨vp_in_nI (by omega) (by omega), p1, vp_in_nI (by omega) (by omega)⟩⟩, ?_⟩
    by_cases q1 : (sgA (s_S σ) j).2.1 = nI n
    · rw [if_pos q1]
      by_cases q2 : f_p G (sgA (s_S σ) j).1.toNatClampNeg = (sgA (s_S σ) j).2.2
      · rw [if_pos q2]
        exact .inl ⟨_, rfl, z, z, rfl, by rw [es, decide_eq_true q1, decide_eq_true q2]; rfl⟩
      · rw [if_neg q2]
        refine .inr ⟨_, rfl, ?_⟩
        have : agA (s_S σ) n G = false := agN_no (j := j + 1) (by rw [es, decide_eq_true q1, decide_eq_false q2]; rfl) _ z
        rw [this]; rfl
    · rw [if_neg q1]
      exact .inl ⟨_, rfl, z, z, rfl, by rw [es, decide_eq_false q1]; rfl⟩
  · have : j = (s_S σ).length := by omega
    subst this
    rw [if_pos (Nat.le_refl _)]
    refine ⟨fun y => absurd (Nat.le_refl _) y, .inr ⟨_, rfl, ?_⟩⟩
    unfold agA
    rw [ha]; rfl
theorem C_couldWish (ok : OK σ) (hc : CSR σ R μ) {k w L : Nat} (hk : k < f_n (s_F σ)) (hw : w ≤ 18) (hL : L ≤ 20) : p_X11_couldWish (nI k) (pl w) (nI L) μ ∧ v_X11_couldWish (nI k) (pl w) (nI L) μ = (if asW σ k w (L + 1) then 1 else 0) ∧ (asW σ k w (L + 1) = true → ∀ n, n ≤ L → (e_X11_couldWish (nI k) (pl w) (nI L) μ).1 46 n = f_p (wiG σ k w n) k) := by
  have hn := ok.g.1
  obtain ⟨p1, h1⟩ := CTR_become ok hc.1 hc.2
  unfold p_X11_couldWish v_X11_couldWish e_X11_couldWish
  simp only [forall_eq]
  generalize e_X1_become 8 1 μ = μ2 at h1 ⊢
  obtain ⟨p2, -, F2⟩ := C_turn h1.2.2.2.1 (nI k) (pl w)
  have f2 := fr_X1_turn 8 (nI k) (pl w) μ2
  have hin : inB (pl w) (-9) 9 = true := by
    have := (pl_f w (by omega)).1
    refine decide_eq_true ?_
    omega
  have eF : turnF (s_F σ) (nI k) (pl w) = setH (s_F σ) k (pl w) := by
    unfold turnF
    rw [hasF_i hn hk, hin, nI_clamp (by omega)]; rfl
  rw [eF] at F2
  have h2 : CTR σ (wiG σ k w 0) R (e_X1_turn 8 (nI k) (pl w) μ2) := ⟨ok, RgF_setH ok.g hk hin, h1.2.2.1.fr f2 (by decide), F2, h1.2.2.2.2.fr f2 (by decide)⟩
  generalize e_X1_turn 8 (nI k) (pl w) μ2 = μ4 at h2 ⊢
  have key := lpI (f := fun s : Int32 × Int32 × Int32 × Mm => bd_X11_couldWish_24 s.1 s.2.1 s.2.2.1 s.2.2.2) (sd := fun s : Int32 × Int32 × Int32 × Mm => sd_X11_couldWish_24 s.1 s.2.1 s.2.2.1 s.2.2.2) (dd := fun s : Int32 × Int32 × Int32 × Mm => (0, s.2.2.2)) (I := fun n s => n ≤ L + 1 ∧ ∃ μ', s = (nI k, nI L, nI n, μ') ∧ CTR σ (wiG σ k w (n - 1)) R μ' ∧ asW σ k w n = true ∧ ∀ j, j < n → μ'.1 46 j = f_p (wiG σ k w j) k)
    (R := fun z => z.1 = (if asW σ k w (L + 1) then 1 else 0) ∧ (asW σ k w (L + 1) = true → ∀ n, n ≤ L → z.2.1 46 n = f_p (wiG σ k w n) k)) (L + 1) (by omega) ?_ (s0 := (nI k, nI L, 0, μ4)) ⟨Nat.zero_le _, μ4, rfl, h2, rfl, fun j hj => absurd hj (by omega)⟩
  · exact ⟨⟨p1, p2, key.1⟩, key.2⟩
  · rintro n _ hi ⟨hi2, μ', rfl, ht, ha, hg⟩
    dsimp only
    unfold sd_X11_couldWish_24 bd_X11_couldWish_24
    rw [nI_1]
    have g20 : ((20 : Int32) < nI n) ↔ 20 < n := nI_ltI (a := 20) (by omega) (by omega)
    simp only [nI_ltI (show L < 2 ^ 31 by omega) (show n < 2 ^ 31 by omega), g20, nI_clamp (show n < 2 ^ 31 by omega), forall_eq]
    rcases Nat.lt_or_ge L n with z | z
    · have : n = L + 1 := by omega
      subst this
      rw [if_pos z]
      exact ⟨fun y => absurd z y, .inr ⟨_, rfl, by rw [ha]; rfl, fun _ m hm => hg m (by omega)⟩⟩
    · rw [if_neg (show ¬ L < n by omega), if_neg (show ¬ 20 < n by omega)]
      have hp : (¬ nI n ≤ 0 → p_X1_pass 8 15 μ') ∧ CTR σ (wiG σ k w n) R (if nI n ≤ 0 then μ' else e_X1_pass 8 15 μ') ∧ (if nI n ≤ 0 then μ' else e_X1_pass 8 15 μ').1 46 = μ'.1 46 := by
        cases n with
        | zero =>
          have e0 : nI 0 ≤ 0 := by decide
          rw [if_pos e0]
          exact ⟨fun y => absurd e0 y, ht, rfl⟩
        | succ n =>
          have e0 : ¬ (nI (n + 1) ≤ 0) := nI_nle (by omega) (by omega)
          rw [if_neg e0]
          obtain ⟨q1, -, q3⟩ := CTR_pass ht
          exact ⟨fun _ => q1, q3, (fr_X1_pass 8 15 μ').1 46 (by decide)⟩
      generalize (if nI n ≤ 0 then μ' else e_X1_pass 8 15 μ') = μ6 at hp ⊢
      obtain ⟨hp1, hp2, hp3⟩ := hp
      obtain ⟨a1, a2⟩ := C_agree hp2 (wiG_n n) (n := n)
      obtain ⟨b1, b2⟩ := C_placeOf hp2.2.2.2.1 (i := k) (by rw [wiG_n]; exact hk)
      rw [a2, b2]
      simp only [one0]
      refine ⟨fun _ _ => ⟨hp1, a1, fun _ => ⟨b1, vp_in_nI (by omega) (by omega)⟩⟩, ?_⟩
      have es : asW σ k w (n + 1) = (asW σ k w n && agA (s_S σ) n (wiG σ k w n)) := rfl
      rw [ha, Bool.true_and] at es
      cases q : agA (s_S σ) n (wiG σ k w n)
      · have h0 : asW σ k w (L + 1) = false := asW_no (j := n + 1) (by rw [es, q]) _ (by omega)
        rw [if_pos (by decide)]
        refine .inr ⟨_, rfl, by rw [h0]; rfl, fun y => ?_⟩
        rw [h0] at y; exact absurd y (by decide)
      · rw [if_neg (by decide)]
        refine .inl ⟨_, rfl, by omega, by omega, _, rfl, ?_, by rw [es, q], fun j hj => ?_⟩
        · obtain ⟨o1, o2, o3, o4, o5⟩ := hp2
          have f : Fr [46] μ6 (upI μ6 46 n (f_p (wiG σ k w n) k)) := Fr.rfl.up (by simp)
          exact ⟨o1, o2, o3.fr f (by decide), o4.fr f (by decide), o5.fr f (by decide)⟩
        · rw [rI]
          by_cases e : j = n
          · subst e; rw [if_pos ⟨rfl, rfl⟩]
          · rw [if_neg (by omega), hp3]; exact hg j (by omega)
theorem M_as49 (hm : MSR σ R μ) (ok : OK σ) (hF : FlM 53 G μ) (hG : f_n G = f_n (s_F σ)) {n : Nat} (b : Bool) (x y : Int32) : whP (fun s : Int32 × Int32 × Int32 × Int32 × Int32 => bd_X12_isAsSeen_49 μ s.1 s.2.1 s.2.2.1 s.2.2.2.1 s.2.2.2.2) (fun s : Int32 × Int32 × Int32 × Int32 × Int32 => sd_X12_isAsSeen_49 μ s.1 s.2.1 s.2.2.1 s.2.2.2.1 s.2.2.2.2) FU (x, y, (if b then 1 else 0), nI n, 0) ∧ whl (fun s : Int32 × Int32 × Int32 × Int32 × Int32 => bd_X12_isAsSeen_49 μ s.1 s.2.1 s.2.2.1 s.2.2.2.1 s.2.2.2.2) (fun _ : Int32 × Int32 × Int32 × Int32 × Int32 => (0, 0, 0, 0)) FU (x, y, (if b then 1 else 0), nI n, 0) = (x, y, (if (b && agA (s_S σ) n G) then 1 else 0), nI n) := by
  have hS := hm.1.S
  have hn := ok.g.1
  have hl := hS.1
  refine lpI (f := fun s : Int32 × Int32 × Int32 × Int32 × Int32 => bd_X12_isAsSeen_49 μ s.1 s.2.1 s.2.2.1 s.2.2.2.1 s.2.2.2.2) (I := fun j s => j ≤ (s_S σ).length ∧ s = (x, y, (if (b && agN (s_S σ) n G j) then 1 else 0), nI n, nI j)) (R := fun z => z = (x, y, (if (b && agA (s_S σ) n G) then 1 else 0), nI n)) (s_S σ).length (by omega) ?_ ⟨Nat.zero_le _, by rw [show agN (s_S σ) n G 0 = true from rfl, Bool.and_true]; rfl⟩
  rintro j _ hj ⟨hj2, rfl⟩
  dsimp only
  unfold sd_X12_isAsSeen_49 bd_X12_isAsSeen_49
  rw [hS.2.1, nI_1]
  simp only [nI_leI (show (s_S σ).length < 2 ^ 31 by omega) (show j < 2 ^ 31 by omega), nI_clamp (show j < 2 ^ 31 by omega)]
  rcases Nat.lt_or_ge j (s_S σ).length with z | z
  · obtain ⟨e1, e2, e3⟩ := hS.2.2 j z
    have e1' : μ.1 67 j = (sgA (s_S σ) j).1 := e1
    have e2' : μ.1 68 j = (sgA (s_S σ) j).2.1 := e2
    have e3' : μ.1 69 j = (sgA (s_S σ) j).2.2 := e3
    obtain ⟨g1, g2, -⟩ := ok.sg z
    have es : agN (s_S σ) n G (j + 1) = (agN (s_S σ) n G j && (!decide ((sgA (s_S σ) j).2.1 = nI n) || decide (f_p G (sgA (s_S σ) j).1.toNatClampNeg = (sgA (s_S σ) j).2.2))) := rfl
    rw [if_neg (show ¬ (s_S σ).length ≤ j by omega), e1', e2', e3']
    have hv : vp_in (7 + (sgA (s_S σ) j).1) 24 := by rw [g2]; exact in7 (by omega)
    have hcl := cl7 (show (sgA (s_S σ) j).1.toNatClampNeg < 1000 by omega)
    rw [← g2] at hcl
    rw [hcl, hF.p (by omega)]
    refine ⟨fun _ _ => ⟨vp_in_nI (by omega) (by omega), fun _ => ⟨vp_in_nI (by omega) (by omega), hv, vp_in_nI (by omega) (by omega)⟩⟩, .inl ⟨_, rfl, z, z, ?_⟩⟩
    rw [es]
    simp only [one0]
    by_cases q1 : (sgA (s_S σ) j).2.1 = nI n <;> by_cases q2 : f_p G (sgA (s_S σ) j).1.toNatClampNeg = (sgA (s_S σ) j).2.2 <;> cases b <;> cases agN (s_S σ) n G j <;> simp [q1, q2]
  · have : j = (s_S σ).length := by omega
    subst this
    rw [if_pos (Nat.le_refl _)]
    exact ⟨fun y => absurd (Nat.le_refl _) y, .inr ⟨_, rfl, rfl⟩⟩
theorem page_N (w n : Nat) : v_X12_page (nI w) (nI n) = nI (21 * w + n) := by
  unfold v_X12_page
  rw [show (21 : Int32) = nI 21 from rfl, nI_mul, nI_add]
theorem M_isAsSeen (ok : OK σ) (hm : MSR σ R μ) {k w : Nat} (hk : k < f_n (s_F σ)) (hw : w ≤ 18) : p_X12_isAsSeen (nI k) (nI w) μ ∧ v_X12_isAsSeen (nI k) (nI w) μ = (if asW σ k w 21 then 1 else 0) ∧ (∀ n, n ≤ 20 → (e_X12_isAsSeen (nI k) (nI w) μ).1 70 (21 * w + n) = f_p (wiG σ k w n) k) ∧ ∀ j, (j < 21 * w ∨ 21 * w + 20 < j) → (e_X12_isAsSeen (nI k) (nI w) μ).1 70 j = μ.1 70 j := by
  have hn := ok.g.1
  obtain ⟨p1, h1⟩ := MTR_copies ok hm.1 hm.2
  have f1 := fs_X12_copies μ
  have h70 : (e_X12_copies μ).1 70 = μ.1 70 := funext (fun j => f1.1 70 j (by decide) (.inl (by decide)))
  unfold p_X12_isAsSeen v_X12_isAsSeen e_X12_isAsSeen
  simp only [forall_eq]
  generalize e_X12_copies μ = μ2 at h1 h70 ⊢
  have ew : nI w - 9 = pl w := by
    unfold pl
    rw [Int32.sub_eq_add_neg, Int32.add_comm]
  have hin : inB (pl w) (-9) 9 = true := by
    have := (pl_f w (by omega)).1
    refine decide_eq_true ?_
    omega
  rw [ew, nI_clamp (show k < 2 ^ 31 by omega)]
  have h2 : MTR σ (wiG σ k w 0) R (upI μ2 53 k (pl w)) := by
    obtain ⟨o1, o2, o3, o4, o5⟩ := h1
    have f : Fs [53] μ2 (upI μ2 53 k (pl w)) := Fs.rfl.up (by simp)
    exact ⟨ok, RgF_setH ok.g hk hin, o3.fs f (by decide), o4.setH (.inr rfl) (by omega), o5.fs f (by decide)⟩
  have h70' : (upI μ2 53 k (pl w)).1 70 = μ.1 70 := by rw [rIc (by omega)]; exact h70
  generalize upI μ2 53 k (pl w) = μ4 at h2 h70' ⊢
  have key := lpI (f := fun s : Int32 × Int32 × Int32 × Int32 × Mm => bd_X12_isAsSeen_19 s.1 s.2.1 s.2.2.1 s.2.2.2.1 s.2.2.2.2) (sd := fun s : Int32 × Int32 × Int32 × Int32 × Mm => sd_X12_isAsSeen_19 s.1 s.2.1 s.2.2.1 s.2.2.2.1 s.2.2.2.2) (dd := fun s : Int32 × Int32 × Int32 × Int32 × Mm => (0, s.2.2.2.2)) (I := fun n s => n ≤ 21 ∧ ∃ μ', s = (nI k, nI w, (if asW σ k w n then 1 else 0), nI n, μ') ∧ MTR σ (wiG σ k w n) R μ' ∧ (∀ m, m < n → μ'.1 70 (21 * w + m) = f_p (wiG σ k w m) k) ∧ ∀ j, (j < 21 * w ∨ 21 * w + 20 < j) → μ'.1 70 j = μ.1 70 j)
    (R := fun z => z.1 = (if asW σ k w 21 then 1 else 0) ∧ (∀ n, n ≤ 20 → z.2.1 70 (21 * w + n) = f_p (wiG σ k w n) k) ∧ ∀ j, (j < 21 * w ∨ 21 * w + 20 < j) → z.2.1 70 j = μ.1 70 j) 21 (by omega) ?_ (s0 := (nI k, nI w, 1, 0, μ4)) ⟨by omega, μ4, rfl, h2, fun j hj => absurd hj (by omega), fun j _ => by rw [h70']⟩
  · refine ⟨⟨p1, vp_in_nI (by omega) (by omega), key.1, ?_⟩, key.2⟩
    rw [key.2.1]; exact nb01 _
  · rintro n _ hi ⟨hi2, μ', rfl, ht, hg, ho⟩
    dsimp only
    unfold sd_X12_isAsSeen_19 bd_X12_isAsSeen_19
    rw [page_N]
    have g20 : ((20 : Int32) < nI n) ↔ 20 < n := nI_ltI (a := 20) (by omega) (by omega)
    simp only [g20, nI_clamp (show 21 * w + n < 2 ^ 31 by omega), cl7 (show k < 1000 by omega), forall_eq]
    rcases Nat.lt_or_ge 20 n with z | z
    · have : n = 21 := by omega
      subst this
      rw [if_pos z]
      exact ⟨fun y => absurd z y, .inr ⟨_, rfl, rfl, fun m hm => hg m (by omega), ho⟩⟩
    · rw [if_neg (show ¬ 20 < n by omega), ht.2.2.2.1.p (by omega)]
      have ht2 : MTR σ (wiG σ k w n) R (upI μ' 70 (21 * w + n) (f_p (wiG σ k w n) k)) := by
        obtain ⟨o1, o2, o3, o4, o5⟩ := ht
        have f : Fs [70] μ' (upI μ' 70 (21 * w + n) (f_p (wiG σ k w n) k)) := Fs.rfl.up (by simp)
        exact ⟨o1, o2, o3.fs f (by decide), o4.fs f (by decide), o5.fs f (by decide)⟩
      have h7 : ∀ j, (upI μ' 70 (21 * w + n) (f_p (wiG σ k w n) k)).1 70 j = if j = 21 * w + n then f_p (wiG σ k w n) k else μ'.1 70 j := fun j => by
        rw [rI]
        by_cases e : j = 21 * w + n
        · rw [if_pos ⟨rfl, e⟩, if_pos e]
        · rw [if_neg (by omega), if_neg e]
      generalize upI μ' 70 (21 * w + n) (f_p (wiG σ k w n) k) = μ5 at ht2 h7 ⊢
      obtain ⟨w1, w2⟩ := M_as49 ⟨ht2.2.2.1, ht2.2.2.2.2⟩ ok ht2.2.2.2.1 (wiG_n n) (n := n) (asW σ k w n) (nI k) (nI w)
      obtain ⟨q1, -, q3⟩ := MTR_pass ht2
      have q70 : (e_X12_minuteGoes 53 μ5).1 70 = μ5.1 70 := funext (fun j => (fs_X12_minuteGoes 53 μ5).1 70 j (by decide) (.inl (by decide)))
      rw [w2]
      dsimp only
      refine ⟨fun _ => ⟨in7 (by omega), vp_in_nI (by omega) (by omega), w1, q1⟩, .inl ⟨_, rfl, by omega, by omega, _, by rw [nI_1]; rfl, q3, fun m hm => ?_, fun j hj => ?_⟩⟩
      · rw [q70, h7]
        by_cases e : m = n
        · subst e; rw [if_pos rfl]
        · rw [if_neg (by omega)]; exact hg m (by omega)
      · rw [q70, h7, if_neg (by omega)]; exact ho j hj
theorem M_wishesOf (ok : OK σ) (hm : MSR σ R μ) {k : Nat} (hk : k < f_n (s_F σ)) : p_X12_wishesOf (nI k) μ ∧ v_X12_wishesOf (nI k) μ = mkb (fun w => asW σ k w 21) 19 ∧ ∀ w n, w ≤ 18 → n ≤ 20 → (e_X12_wishesOf (nI k) μ).1 70 (21 * w + n) = f_p (wiG σ k w n) k := by
  have hn := ok.g.1
  unfold p_X12_wishesOf v_X12_wishesOf e_X12_wishesOf
  refine lpI (f := fun s : Int32 × Int32 × Int32 × Mm => bd_X12_wishesOf_4 s.1 s.2.1 s.2.2.1 s.2.2.2) (sd := fun s : Int32 × Int32 × Int32 × Mm => sd_X12_wishesOf_4 s.1 s.2.1 s.2.2.1 s.2.2.2) (dd := fun s : Int32 × Int32 × Int32 × Mm => (0, s.2.2.2)) (I := fun i s => i ≤ 19 ∧ ∃ μ', s = (nI k, mkb (fun w => asW σ k w 21) i, nI i, μ') ∧ MSR σ R μ' ∧ ∀ w n, w < i → n ≤ 20 → μ'.1 70 (21 * w + n) = f_p (wiG σ k w n) k)
    (R := fun z => z.1 = mkb (fun w => asW σ k w 21) 19 ∧ ∀ w n, w ≤ 18 → n ≤ 20 → z.2.1 70 (21 * w + n) = f_p (wiG σ k w n) k) 19 (by omega) ?_ (s0 := (nI k, 0, 0, μ)) ⟨by omega, μ, rfl, hm, fun w n h => absurd h (by omega)⟩
  rintro i _ hi ⟨hi2, μ', rfl, ht, hg⟩
  dsimp only
  unfold sd_X12_wishesOf_4 bd_X12_wishesOf_4
  have g19 : ((19 : Int32) ≤ nI i) ↔ 19 ≤ i := nI_leI (a := 19) (by omega) (by omega)
  simp only [g19, nI_1]
  rcases Nat.lt_or_ge i 19 with z | z
  · obtain ⟨a1, a2, a3, a4⟩ := M_isAsSeen ok ht hk (w := i) (by omega)
    have f := fs_X12_isAsSeen (nI k) (nI i) μ'
    rw [if_neg (show ¬ 19 ≤ i by omega), a2]
    simp only [one0]
    refine ⟨fun _ => a1, .inl ⟨_, rfl, z, z, _, ?_, ⟨ht.1.fs f (by decide), ht.2.fs f (by decide)⟩, fun w n hw hn2 => ?_⟩⟩
    · have es : mkb (fun w => asW σ k w 21) (i + 1) = mkb (fun w => asW σ k w 21) i ||| (if asW σ k i 21 then 1 <<< (nI i &&& 31) else 0) := rfl
      rw [es]
      cases asW σ k i 21 <;> rfl
    · by_cases e : w = i
      · subst e; exact a3 n hn2
      · rw [a4 _ (by omega)]; exact hg w n (by omega) hn2
  · have : i = 19 := by omega
    subst this
    rw [if_pos z]
    exact ⟨fun y => absurd z y, .inr ⟨_, rfl, rfl, fun w n hw hn2 => hg w n (by omega) hn2⟩⟩
end CA

/-! looks -/
def cwP (σ : ST) (k n c : Nat) (w : Nat) : Bool := asW σ k w 21 && decide (f_p (wiG σ k w n) k = pl c)
def cwN (σ : ST) (k n c i : Nat) : Nat := cN (cwP σ k n c) i
def mxL (f : Nat → Nat) : Nat → Nat
  | 0 => 0
  | c + 1 => if mxL f c < f c then f c else mxL f c
theorem mxL_le {f : Nat → Nat} {B : Nat} (h : ∀ c, f c ≤ B) : ∀ n, mxL f n ≤ B
  | 0 => Nat.zero_le _
  | n + 1 => by
    have := mxL_le h n
    have := h n
    unfold mxL
    split <;> omega
def moL (σ : ST) (k n : Nat) : Nat := mxL (fun c => cwN σ k n c 19) 19
theorem moL_le (σ : ST) (k n : Nat) : moL σ k n ≤ 19 := mxL_le (fun c => cN_le _ 19) 19
def blL (f : Nat → Nat) : Nat → Nat × Nat
  | 0 => (0, f 0)
  | n + 1 => if (blL f n).2 ≤ f (n + 1) then blL f n else (n + 1, f (n + 1))
theorem blL_le {f : Nat → Nat} {B : Nat} (h : ∀ c, f c ≤ B) : ∀ n, (blL f n).1 ≤ n ∧ (blL f n).2 ≤ B
  | 0 => ⟨Nat.le_refl _, h 0⟩
  | n + 1 => by
    have := blL_le h n
    have h2 := h (n + 1)
    unfold blL
    by_cases q : (blL f n).2 ≤ f (n + 1)
    · rw [if_pos q]; omega
    · rw [if_neg q]; exact ⟨Nat.le_refl _, h2⟩
theorem wi_p {σ : ST} (ok : OK σ) {k w n : Nat} (hk : k < f_n (s_F σ)) (hw : w ≤ 18) : ∃ c, c < 19 ∧ f_p (wiG σ k w n) k = pl c := by
  have hin : inB (pl w) (-9) 9 = true := by
    have := (pl_f w (by omega)).1
    refine decide_eq_true ?_
    omega
  have hg : RgF (wiG σ k w n) := RgF_go (RgF_setH ok.g hk hin) n
  have hn := ok.g.1
  have h := (hg.2.1 k (by omega)).2.2.1
  refine ⟨((f_p (wiG σ k w n) k).toInt + 9).toNat, by omega, ?_⟩
  rw [fa_eq, (pl_f _ (by omega)).1]
  omega
theorem pl_inj {a b : Nat} (ha : a < 20) (hb : b < 20) : pl a = pl b ↔ a = b := by
  rw [fa_eq, (pl_f a ha).1, (pl_f b hb).1]
  omega
theorem ix19 {n c : Nat} : ((nI n * 19) + 9) + pl c = nI (19 * n + c) := by
  unfold pl
  rw [show (19 : Int32) = nI 19 from rfl, nI_mul, Int32.add_assoc, ← Int32.add_assoc 9, show (9 : Int32) + (-9) = 0 from by decide, Int32.zero_add, nI_add, Nat.mul_comm]
section LK
variable {σ : ST} {R : List Int64} {μ : Mm}
theorem C_most {f : Nat → Nat → Nat} (hg : ∀ n c, n ≤ 20 → c < 19 → μ.1 47 (19 * n + c) = nI (f n c)) (hf : ∀ n c, f n c ≤ 19) {n : Nat} (hn : n ≤ 20) : p_X11_mostOnOnePlace (nI n) μ ∧ v_X11_mostOnOnePlace (nI n) μ = nI (mxL (f n) 19) := by
  refine lpF (f := fun s : Int32 × Int32 × Int32 => bd_X11_mostOnOnePlace_4 μ s.1 s.2.1 s.2.2) (sd := fun s : Int32 × Int32 × Int32 => sd_X11_mostOnOnePlace_4 μ s.1 s.2.1 s.2.2) (dd := fun _ : Int32 × Int32 × Int32 => 0) (fun c => (nI n, nI (mxL (f n) c), nI c)) 19 (r := nI (mxL (f n) 19)) (by omega) (fun c hc => ?_) ⟨fun y => absurd (show (19 : Int32) ≤ nI 19 by decide) y, if_pos (show (19 : Int32) ≤ nI 19 by decide)⟩
  have g19 : ¬ ((19 : Int32) ≤ nI c) := fun y => by have := (nI_leI (a := 19) (by omega) (by omega)).mp y; omega
  have ei : nI n * 19 + nI c = nI (19 * n + c) := by rw [show (19 : Int32) = nI 19 from rfl, nI_mul, nI_add, Nat.mul_comm]
  have h1 := mxL_le (hf n) c
  have h2 := hf n c
  dsimp only
  unfold sd_X11_mostOnOnePlace_4 bd_X11_mostOnOnePlace_4
  rw [if_neg g19, ei, nI_clamp (by omega), hg n c hn hc, nI_1]
  simp only [nI_ltI (show mxL (f n) c < 2 ^ 31 by omega) (show f n c < 2 ^ 31 by omega)]
  refine ⟨fun _ => vp_in_nI (by omega) (by omega), ?_⟩
  have es : mxL (f n) (c + 1) = if mxL (f n) c < f n c then f n c else mxL (f n) c := rfl
  rw [es]
  by_cases q : mxL (f n) c < f n c
  · rw [if_pos q, if_pos q]
  · rw [if_neg q, if_neg q]
theorem C_gc51 (ok : OK σ) {k w : Nat} (hk : k < f_n (s_F σ)) (hw : w ≤ 18) (ht : ∀ n, n ≤ 20 → μ.1 46 n = f_p (wiG σ k w n) k) : whP (fun s : Int32 × Int32 × Int32 × Int32 × Mm => bd_X11_gatherCrowds_51 s.1 s.2.1 s.2.2.1 s.2.2.2.1 s.2.2.2.2) (fun s : Int32 × Int32 × Int32 × Int32 × Mm => sd_X11_gatherCrowds_51 s.1 s.2.1 s.2.2.1 s.2.2.2.1 s.2.2.2.2) FU (nI k, 1, pl w, 0, μ) ∧ (fun z : Int32 × Int32 × Int32 × Mm => z.1 = nI k ∧ z.2.1 = 1 ∧ z.2.2.1 = pl w ∧ Fr [47] μ z.2.2.2 ∧ ∀ m c, m ≤ 20 → c < 19 → z.2.2.2.1 47 (19 * m + c) = μ.1 47 (19 * m + c) + (if f_p (wiG σ k w m) k = pl c then 1 else 0)) (whl (fun s : Int32 × Int32 × Int32 × Int32 × Mm => bd_X11_gatherCrowds_51 s.1 s.2.1 s.2.2.1 s.2.2.2.1 s.2.2.2.2) (fun s : Int32 × Int32 × Int32 × Int32 × Mm => (0, 0, 0, s.2.2.2.2)) FU (nI k, 1, pl w, 0, μ)) := by
  refine lpI (f := fun s : Int32 × Int32 × Int32 × Int32 × Mm => bd_X11_gatherCrowds_51 s.1 s.2.1 s.2.2.1 s.2.2.2.1 s.2.2.2.2) (sd := fun s : Int32 × Int32 × Int32 × Int32 × Mm => sd_X11_gatherCrowds_51 s.1 s.2.1 s.2.2.1 s.2.2.2.1 s.2.2.2.2) (dd := fun s : Int32 × Int32 × Int32 × Int32 × Mm => (0, 0, 0, s.2.2.2.2)) (I := fun n s => n ≤ 21 ∧ ∃ μ', s = (nI k, 1, pl w, nI n, μ') ∧ Fr [47] μ μ' ∧ ∀ m c, m ≤ 20 → c < 19 → μ'.1 47 (19 * m + c) = μ.1 47 (19 * m + c) + (if m < n ∧ f_p (wiG σ k w m) k = pl c then 1 else 0))
    (R := fun z : Int32 × Int32 × Int32 × Mm => z.1 = nI k ∧ z.2.1 = 1 ∧ z.2.2.1 = pl w ∧ Fr [47] μ z.2.2.2 ∧ ∀ m c, m ≤ 20 → c < 19 → z.2.2.2.1 47 (19 * m + c) = μ.1 47 (19 * m + c) + (if f_p (wiG σ k w m) k = pl c then 1 else 0)) 21 (by omega) ?_ (s0 := (nI k, 1, pl w, 0, μ)) ⟨by omega, μ, rfl, Fr.rfl, fun m c _ _ => by rw [if_neg (by omega), Int32.add_zero]⟩
  rintro n _ hi ⟨hi2, μ', rfl, hf, hg⟩
  dsimp only
  unfold sd_X11_gatherCrowds_51 bd_X11_gatherCrowds_51
  have g20 : ((20 : Int32) < nI n) ↔ 20 < n := nI_ltI (a := 20) (by omega) (by omega)
  simp only [g20, nI_clamp (show n < 2 ^ 31 by omega), nI_1]
  rcases Nat.lt_or_ge 20 n with z | z
  · have : n = 21 := by omega
    subst this
    rw [if_pos z]
    refine ⟨fun y => absurd z y, .inr ⟨_, rfl, rfl, rfl, rfl, hf, fun m c hm hc => ?_⟩⟩
    rw [hg m c hm hc]
    simp only [show m < 21 by omega, true_and]
  · obtain ⟨c0, hc0, e0⟩ := wi_p ok (n := n) hk hw
    have e46 : μ'.1 46 n = pl c0 := by rw [hf.1 46 (by decide), ht n z, e0]
    rw [if_neg (show ¬ 20 < n by omega), e46, ix19, nI_clamp (by omega)]
    refine ⟨fun _ => ⟨vp_in_nI (by omega) (by omega), vp_in_nI (by omega) (by omega), vp_in_nI (by omega) (by omega)⟩, .inl ⟨_, rfl, by omega, by omega, _, rfl, hf.up (by simp), fun m c hm hc => ?_⟩⟩
    rw [rI]
    by_cases q : m = n ∧ c = c0
    · obtain ⟨q1, q2⟩ := q
      subst q1 q2
      rw [if_pos ⟨rfl, rfl⟩, hg m c hm hc, if_neg (by omega), if_pos ⟨by omega, e0⟩, Int32.add_zero]
    · rw [if_neg (by omega), hg m c hm hc]
      congr 1
      by_cases q1 : m = n
      · subst q1
        have hne : ¬ f_p (wiG σ k w m) k = pl c := fun y => by
          rw [e0, pl_inj (by omega) (by omega)] at y
          omega
        rw [if_neg (by omega), if_neg (fun y => hne y.2)]
      · by_cases q2 : f_p (wiG σ k w m) k = pl c
        · by_cases q3 : m < n
          · rw [if_pos ⟨q3, q2⟩, if_pos ⟨by omega, q2⟩]
          · rw [if_neg (by omega), if_neg (by omega)]
        · rw [if_neg (fun y => q2 y.2), if_neg (fun y => q2 y.2)]
theorem C_gather (ok : OK σ) (hc : CSR σ R μ) {k : Nat} (hk : k < f_n (s_F σ)) : p_X11_gatherCrowds (nI k) μ ∧ v_X11_gatherCrowds (nI k) μ = (if mkb (fun w => asW σ k w 21) 19 = 0 then 0 else 1) ∧ ∀ n c, n ≤ 20 → c < 19 → (e_X11_gatherCrowds (nI k) μ).1 47 (19 * n + c) = nI (cwN σ k n c 19) := by
  have hn := ok.g.1
  unfold p_X11_gatherCrowds v_X11_gatherCrowds e_X11_gatherCrowds
  simp only [forall_eq]
  have key1 := lpI (f := fun s : Int32 × Int32 × Mm => bd_X11_gatherCrowds_2 s.1 s.2.1 s.2.2) (sd := fun s : Int32 × Int32 × Mm => sd_X11_gatherCrowds_2 s.1 s.2.1 s.2.2) (dd := fun s : Int32 × Int32 × Mm => (0, s.2.2)) (I := fun i s => i ≤ 399 ∧ ∃ μ', s = (nI k, nI i, μ') ∧ Fr [47] μ μ' ∧ ∀ j, j < i → μ'.1 47 j = 0)
    (R := fun z : Int32 × Mm => z.1 = nI k ∧ Fr [47] μ z.2 ∧ ∀ j, j < 399 → z.2.1 47 j = 0) 399 (by omega) ?_ (s0 := (nI k, 0, μ)) ⟨by omega, μ, rfl, Fr.rfl, fun j hj => absurd hj (by omega)⟩
  · obtain ⟨k1, k2, k3, k4⟩ := key1
    generalize whl (fun s : Int32 × Int32 × Mm => bd_X11_gatherCrowds_2 s.1 s.2.1 s.2.2) _ FU _ = z at k2 k3 k4 ⊢
    rw [k2]
    have hc2 : CSR σ R z.2 := ⟨hc.1.fr k3 (by decide), hc.2.fr k3 (by decide)⟩
    generalize z.2 = μ2 at k4 hc2 ⊢
    have key := lpI (f := fun s : Int32 × Int32 × Int32 × Mm => bd_X11_gatherCrowds_29 s.1 s.2.1 s.2.2.1 s.2.2.2) (sd := fun s : Int32 × Int32 × Int32 × Mm => sd_X11_gatherCrowds_29 s.1 s.2.1 s.2.2.1 s.2.2.2) (dd := fun s : Int32 × Int32 × Int32 × Mm => (0, s.2.2.2)) (I := fun i s => i ≤ 19 ∧ ∃ μ', s = (nI k, (if mkb (fun w => asW σ k w 21) i = 0 then 0 else 1), pl i, μ') ∧ CSR σ R μ' ∧ ∀ n c, n ≤ 20 → c < 19 → μ'.1 47 (19 * n + c) = nI (cwN σ k n c i))
      (R := fun z : Int32 × Mm => z.1 = (if mkb (fun w => asW σ k w 21) 19 = 0 then 0 else 1) ∧ ∀ n c, n ≤ 20 → c < 19 → z.2.1 47 (19 * n + c) = nI (cwN σ k n c 19)) 19 (by omega) ?_ (s0 := (nI k, 0, -9, μ2)) ⟨by omega, μ2, rfl, hc2, fun n c hn hc => by rw [k4 _ (by omega)]; rfl⟩
    · obtain ⟨w1, w2, w3⟩ := key
      refine ⟨⟨k1, w1, ?_⟩, w2, w3⟩
      rw [w2]
      by_cases q : mkb (fun w => asW σ k w 21) 19 = 0
      · rw [if_pos q]; rfl
      · rw [if_neg q]; rfl
    · rintro i _ hi ⟨hi2, μ', rfl, ht, hg⟩
      dsimp only
      unfold sd_X11_gatherCrowds_29 bd_X11_gatherCrowds_29
      simp only [forall_eq]
      rcases Nat.lt_or_ge 18 i with z | z
      · have : i = 19 := by omega
        subst this
        have g9 : (9 : Int32) < pl 19 := by decide
        rw [if_pos g9]
        exact ⟨fun y => absurd g9 y, .inr ⟨_, rfl, rfl, hg⟩⟩
      · obtain ⟨-, f2, f3⟩ := pl_f i (by omega)
        have g9 : ¬ ((9 : Int32) < pl i) := fun y => by have := f3.mp y; omega
        obtain ⟨a1, a2, a3⟩ := C_couldWish ok ht hk (w := i) (L := 20) (by omega) (by omega)
        have e20 : nI 20 = 20 := rfl
        rw [e20] at a1 a2 a3
        have f := fr_X11_couldWish (nI k) (pl i) 20 μ'
        have ht3 : CSR σ R (e_X11_couldWish (nI k) (pl i) 20 μ') := ⟨ht.1.fr f (by decide), ht.2.fr f (by decide)⟩
        have hg3 : ∀ n c, n ≤ 20 → c < 19 → (e_X11_couldWish (nI k) (pl i) 20 μ').1 47 (19 * n + c) = nI (cwN σ k n c i) := fun n c hn hc => by rw [f.1 47 (by decide)]; exact hg n c hn hc
        rw [if_neg g9, a2]
        simp only [one0]
        generalize e_X11_couldWish (nI k) (pl i) 20 μ' = μ3 at a3 ht3 hg3 ⊢
        have em : mkb (fun w => asW σ k w 21) (i + 1) = mkb (fun w => asW σ k w 21) i ||| (if asW σ k i 21 then 1 <<< (nI i &&& 31) else 0) := rfl
        have ec : ∀ n c, cwN σ k n c (i + 1) = cwN σ k n c i + (if cwP σ k n c i then 1 else 0) := fun n c => rfl
        cases q : asW σ k i 21
        · have q' : asW σ k i (20 + 1) = false := q
          simp only [Bool.false_eq_true, not_false_eq_true, if_true]
          rw [f2]
          refine ⟨fun _ => ⟨a1, fun y => absurd trivial y⟩, .inl ⟨_, rfl, by omega, by omega, μ3, ?_, ht3, fun n c hn hc => ?_⟩⟩
          · have : mkb (fun w => asW σ k w 21) (i + 1) = mkb (fun w => asW σ k w 21) i := by
              rw [em, q]
              apply b_ext
              intro j hj
              rw [b_or]; simp [b_0]
            rw [this]
          · have e0 : cwP σ k n c i = false := by unfold cwP; rw [q, Bool.false_and]
            rw [ec, e0, hg3 n c hn hc]; rfl
        · have q' : asW σ k i (20 + 1) = true := q
          obtain ⟨w1, w2, w3, w4, w5, w6⟩ := C_gc51 ok hk (w := i) (by omega) (a3 q')
          simp only [not_true_eq_false, if_false]
          generalize whl (fun s : Int32 × Int32 × Int32 × Int32 × Mm => bd_X11_gatherCrowds_51 s.1 s.2.1 s.2.2.1 s.2.2.2.1 s.2.2.2.2) _ FU _ = zz at w2 w3 w4 w5 w6 ⊢
          rw [w2, w3, w4, f2]
          refine ⟨fun _ => ⟨a1, fun _ => w1⟩, .inl ⟨_, rfl, by omega, by omega, zz.2.2.2, ?_, ⟨ht3.1.fr w5 (by decide), ht3.2.fr w5 (by decide)⟩, fun n c hn hc => ?_⟩⟩
          · rw [if_neg (mkb_nz (n := i + 1) (t := i) (by omega) (by omega) q)]
          · rw [w6 n c hn hc, hg3 n c hn hc, ec]
            by_cases e : f_p (wiG σ k i n) k = pl c
            · have e0 : cwP σ k n c i = true := by unfold cwP; rw [q, decide_eq_true e]; rfl
              rw [if_pos e, e0, nI_1]; rfl
            · have e0 : cwP σ k n c i = false := by unfold cwP; rw [q, decide_eq_false e]; rfl
              rw [if_neg e, e0, Int32.add_zero]; rfl
  · rintro i _ hi ⟨hi2, μ', rfl, hf, hg⟩
    dsimp only
    unfold sd_X11_gatherCrowds_2 bd_X11_gatherCrowds_2
    have g : (Int32.ofNat 399 ≤ nI i) ↔ 399 ≤ i := nI_leI (a := 399) (by omega) (by omega)
    simp only [g, nI_clamp (show i < 2 ^ 31 by omega), nI_1]
    rcases Nat.lt_or_ge i 399 with z | z
    · rw [if_neg (show ¬ 399 ≤ i by omega)]
      refine ⟨fun _ => vp_in_nI (by omega) (by omega), .inl ⟨_, rfl, z, z, _, rfl, hf.up (by simp), fun j hj => ?_⟩⟩
      rw [rI]
      by_cases e : j = i
      · rw [if_pos ⟨rfl, e⟩]
      · rw [if_neg (by omega)]; exact hg j (by omega)
    · rw [if_pos z]
      exact ⟨fun y => absurd z y, .inr ⟨_, rfl, rfl, hf, fun j hj => hg j (by omega)⟩⟩
end LK

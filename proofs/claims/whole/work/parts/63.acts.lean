/-! the model reads a morning -/
def a2V (T : List Nat) (a : Nat) : Int32 := if chT T a = 115 then dgI T (a + 2) else if chT T a = 108 then (if chT T (a + 2) = 119 then -dgI T (a + 3) else dgI T (a + 3)) else (if chT T (a + 2) = 45 then -dgI T (a + 3) else dgI T (a + 3))
/-- act k, as the model has laid it by -/
def AcM (T : List Nat) (k : Nat) (μ : Mm) : Prop := ∃ q, kdA (chT T (sA T k)) = some q ∧ μ.1 63 k = nI q ∧ μ.1 64 k = dgI T (sA T k + 1) ∧ (2 ≤ q → μ.1 65 k = a2V T (sA T k))
theorem kdA_l {c q : Nat} (h : kdA c = some q) : (q = 0 ∧ c = 110 ∧ aln c = 2) ∨ (q = 1 ∧ c = 111 ∧ aln c = 2) ∨ (q = 2 ∧ c = 115 ∧ aln c = 3) ∨ (q = 3 ∧ c = 108 ∧ aln c = 4) ∨ (q = 4 ∧ c = 116 ∧ aln c = 4) := by
  unfold kdA at h
  by_cases c1 : c = 110
  · subst c1; simp at h; subst h; simp [aln]
  · by_cases c2 : c = 111
    · subst c2; simp at h; subst h; simp [aln]
    · by_cases c3 : c = 115
      · subst c3; simp at h; subst h; simp [aln]
      · by_cases c4 : c = 108
        · subst c4; simp at h; subst h; simp [aln]
        · by_cases c5 : c = 116
          · subst c5; simp at h; subst h; simp [aln]
          · rw [if_neg c1, if_neg c2, if_neg c3, if_neg c4, if_neg c5] at h; cases h
theorem kdA_n {c : Nat} (h : kdA c = none) : aln c = 1 := by
  unfold kdA at h
  unfold aln
  by_cases c1 : c = 110
  · subst c1; simp at h
  · by_cases c2 : c = 111
    · subst c2; simp at h
    · by_cases c3 : c = 115
      · subst c3; simp at h
      · by_cases c4 : c = 108
        · subst c4; simp at h
        · by_cases c5 : c = 116
          · subst c5; simp at h
          · rw [if_neg c4, if_neg c1, if_neg c2, if_neg c3, if_neg c5]
theorem wx2 (x y c : Nat) (hxy : x ≠ y) : ff (fun j => decide (([x, y] : List Nat).getD j 0 = c)) 0 2 = if c = x then some 0 else if c = y then some 1 else none := by
  by_cases h1 : c = x
  · rw [if_pos h1, ff_y (P := fun j => decide (([x, y] : List Nat).getD j 0 = c)) (i := 0) (k := 1) (decide_eq_true h1.symm)]
  · rw [if_neg h1, ff_n (P := fun j => decide (([x, y] : List Nat).getD j 0 = c)) (i := 0) (k := 1) (decide_eq_false (fun z => h1 (Eq.symm z)))]
    by_cases h2 : c = y
    · rw [if_pos h2, ff_y (P := fun j => decide (([x, y] : List Nat).getD j 0 = c)) (i := 0 + 1) (k := 0) (decide_eq_true h2.symm)]
    · rw [if_neg h2, ff_n (P := fun j => decide (([x, y] : List Nat).getD j 0 = c)) (i := 0 + 1) (k := 0) (decide_eq_false (fun z => h2 (Eq.symm z)))]; rfl
section RA
variable {T : List Nat} {e : Nat} {μ : Mm}
theorem isD_f {a : Nat} (h : isD T a e 0 9 = false) (ha : a < e) : decide (48 ≤ chT T a ∧ chT T a ≤ 57) = false := by
  unfold isD at h
  rw [decide_eq_true ha, Bool.true_and] at h
  exact h
theorem isD_t {a : Nat} (h : isD T a e 0 9 = true) : a < e ∧ decide (48 ≤ chT T a ∧ chT T a ≤ 57) = true := by
  unfold isD at h
  rw [Bool.and_eq_true, decide_eq_true_eq] at h
  exact h
theorem nar_b (c : Bool) : narrow .boolean (.int (if c then 1 else 0)) = .int (if c then 1 else 0) := by
  cases c <;> rfl
/-- what comes of reading act k -/
def RdA (T : List Nat) (e k : Nat) (v : Int32) (μ' : Mm) : Prop := (v = 1 ∧ Rd T (sA T (k + 1)) e μ' ∧ VdA T (sA T (k + 1)) ∧ AcM T k μ') ∨ (v = 0 ∧ ∃ b, Rd T b e μ' ∧ EnA T e b k ∧ ¬ (sA T k = e))
theorem RdA_n {k b : Nat} {μ' : Mm} (h : Rd T b e μ') (hv : VdA T (sA T k)) (ha : sA T k < e) (h1 : sA T k ≤ b) (h2 : b < sA T (k + 1)) (h3 : ∀ j, sA T k ≤ j → j < b → stA T (sA T k) j = true) (h4 : b < e → stA T (sA T k) b = false) : RdA T e k 0 μ' :=
  .inr ⟨rfl, b, h, ⟨h.2.2.1, h1, h2, VdA_to hv h1 (by omega) h3, h4⟩, by omega⟩
theorem R_act {k : Nat} (h : Rd T (sA T k) e μ) (hT : ∀ i, chT T i < 256) (ha : sA T k < e) (hv : VdA T (sA T k)) (hk : k < 60) (h29 : μ.1 49 29 = nI k) : p_X12_readsAct μ ∧ RdA T e k (v_X12_readsAct μ) (e_X12_readsAct μ) ∧ (e_X12_readsAct μ).1 49 29 = nI (k + 1) ∧ ∀ j, j < k → (e_X12_readsAct μ).1 63 j = μ.1 63 j ∧ (e_X12_readsAct μ).1 64 j = μ.1 64 j ∧ (e_X12_readsAct μ).1 65 j = μ.1 65 j := by
  have ca := hT (sA T k)
  have ew : wxO [110, 111, 115, 108, 116] T (sA T k) e = kdA (chT T (sA T k)) := by
    unfold wxO
    rw [if_pos ha]; exact kdA_x _ ca
  obtain ⟨a1, a2, a3⟩ := R_takesOf tx6 h hT
  rw [ew] at a2 a3
  have f2 := fs_X12_takesOf 6 μ
  have vk : vp_in (nI k) 60 := vp_in_nI hk (by omega)
  unfold p_X12_readsAct v_X12_readsAct e_X12_readsAct
  simp only [forall_eq]
  rw [h29, a2, nI_clamp (show k < 2 ^ 31 by omega)]
  have o29 : (e_X12_takesOf 6 μ).1 49 29 = nI k := by rw [f2.1 49 29 (by decide) (.inr (by decide))]; exact h29
  have o63 : ∀ j, (e_X12_takesOf 6 μ).1 63 j = μ.1 63 j := fun j => f2.1 63 j (by decide) (.inl (by decide))
  have o64 : ∀ j, (e_X12_takesOf 6 μ).1 64 j = μ.1 64 j := fun j => f2.1 64 j (by decide) (.inl (by decide))
  have o65 : ∀ j, (e_X12_takesOf 6 μ).1 65 j = μ.1 65 j := fun j => f2.1 65 j (by decide) (.inl (by decide))
  generalize e_X12_takesOf 6 μ = μ2 at a3 o29 o63 o64 o65 ⊢
  generalize hw : wxI (kdA (chT T (sA T k))) = w
  have r5 : Rd T (if (kdA (chT T (sA T k))).isSome then sA T k + 1 else sA T k) e (upI (upI μ2 63 k w) 49 29 ((upI μ2 63 k w).1 49 29 + 1)) := Rd.up (a3.fs (S := [63]) (Fs.rfl.up (by simp)) (by decide)) (by decide) _
  have p29 : (upI (upI μ2 63 k w) 49 29 ((upI μ2 63 k w).1 49 29 + 1)).1 49 29 = nI (k + 1) := by
    rw [rI, if_pos ⟨rfl, rfl⟩, rI, if_neg (by omega), o29, nI_1]
  have p63k : (upI (upI μ2 63 k w) 49 29 ((upI μ2 63 k w).1 49 29 + 1)).1 63 k = w := by
    rw [rI, if_neg (by omega), rI, if_pos ⟨rfl, rfl⟩]
  have p63 : ∀ j, j < k → (upI (upI μ2 63 k w) 49 29 ((upI μ2 63 k w).1 49 29 + 1)).1 63 j = μ.1 63 j := fun j hj => by
    rw [rI, if_neg (by omega), rI, if_neg (by omega)]; exact o63 j
  have p64 : ∀ j, (upI (upI μ2 63 k w) 49 29 ((upI μ2 63 k w).1 49 29 + 1)).1 64 j = μ.1 64 j := fun j => by
    rw [rI, if_neg (by omega), rI, if_neg (by omega)]; exact o64 j
  have p65 : ∀ j, (upI (upI μ2 63 k w) 49 29 ((upI μ2 63 k w).1 49 29 + 1)).1 65 j = μ.1 65 j := fun j => by
    rw [rI, if_neg (by omega), rI, if_neg (by omega)]; exact o65 j
  generalize upI (upI μ2 63 k w) 49 29 ((upI μ2 63 k w).1 49 29 + 1) = μ5 at r5 p29 p63k p63 p64 p65 ⊢
  rw [p63k]
  cases hq : kdA (chT T (sA T k)) with
  | none =>
    rw [hq] at hw r5
    have ew : w = -1 := hw.symm
    have gw : ¬ ((0 : Int32) ≤ w) := by rw [ew]; decide
    have e1 := kdA_n hq
    have g1 : (upI μ5 64 k (-1)).1 64 k = -1 := by rw [rI, if_pos ⟨rfl, rfl⟩]
    have gm : (-1 : Int32) < 0 := by decide
    simp only [if_neg gw, g1, if_pos gm]
    have r5' : Rd T (sA T k) e μ5 := r5
    refine ⟨⟨a1, vk, vk, fun y => absurd y gw, vk, vk, fun _ => vk, fun y => absurd gm y⟩, ?_, ?_, fun j hj => ⟨?_, ?_, ?_⟩⟩
    · refine RdA_n (b := sA T k) (r5'.fs (S := [64]) (Fs.rfl.up (by simp)) (by decide)) hv ha (Nat.le_refl _) (sA_lt T k) (fun j h1 h2 => absurd h1 (by omega)) (fun _ => ?_)
      unfold stA
      rw [if_pos rfl, e1]; rfl
    · rw [rI, if_neg (by omega)]; exact p29
    · rw [rI, if_neg (by omega)]; exact p63 j hj
    · rw [rI, if_neg (by omega)]; exact p64 j
    · rw [rI, if_neg (by omega)]; exact p65 j
  | some q =>
    rw [hq] at hw r5
    have ew : w = nI q := hw.symm
    have hql := kdA_l hq
    have q4 : q ≤ 4 := by omega
    have gw : (0 : Int32) ≤ w := by rw [ew, fa_le, t0, nI_toInt (by omega)]; omega
    have r5' : Rd T (sA T k + 1) e μ5 := r5
    have al2 : 2 ≤ aln (chT T (sA T k)) := by omega
    have es := sA_s T k
    have st00 : stA T (sA T k) (sA T k) = true := by
      unfold stA
      rw [if_pos rfl, decide_eq_true (by omega)]
    have st01 : stA T (sA T k) (sA T k + 1) = decide (48 ≤ chT T (sA T k + 1) ∧ chT T (sA T k + 1) ≤ 57) := by
      unfold stA
      rw [if_neg (by omega), if_neg (by omega), if_neg (by omega)]
    obtain ⟨n1, n2, n3⟩ := R_number1 r5' hT
    have f10 := fs_X12_number 1 μ5
    rw [if_pos gw, if_pos gw, n2]
    have q29 : (e_X12_number 1 μ5).1 49 29 = nI (k + 1) := by rw [f10.1 49 29 (by decide) (.inr (by decide))]; exact p29
    have q63k : (e_X12_number 1 μ5).1 63 k = w := by rw [f10.1 63 k (by decide) (.inl (by decide))]; exact p63k
    have q63 : ∀ j, j < k → (e_X12_number 1 μ5).1 63 j = μ.1 63 j := fun j hj => by rw [f10.1 63 j (by decide) (.inl (by decide))]; exact p63 j hj
    have q64 : ∀ j, (e_X12_number 1 μ5).1 64 j = μ.1 64 j := fun j => by rw [f10.1 64 j (by decide) (.inl (by decide))]; exact p64 j
    have q65 : ∀ j, (e_X12_number 1 μ5).1 65 j = μ.1 65 j := fun j => by rw [f10.1 65 j (by decide) (.inl (by decide))]; exact p65 j
    generalize e_X12_number 1 μ5 = μ10 at n3 q29 q63k q63 q64 q65 ⊢
    generalize hd : (if isD T (sA T k + 1) e 0 9 then nI (chT T (sA T k + 1)) - 48 else -1 : Int32) = d
    have r12 : Rd T (if isD T (sA T k + 1) e 0 9 then sA T k + 1 + 1 else sA T k + 1) e (upI μ10 64 k d) := n3.fs (S := [64]) (Fs.rfl.up (by simp)) (by decide)
    have u29 : (upI μ10 64 k d).1 49 29 = nI (k + 1) := by rw [rI, if_neg (by omega)]; exact q29
    have u63k : (upI μ10 64 k d).1 63 k = w := by rw [rI, if_neg (by omega)]; exact q63k
    have u63 : ∀ j, j < k → (upI μ10 64 k d).1 63 j = μ.1 63 j := fun j hj => by rw [rI, if_neg (by omega)]; exact q63 j hj
    have u64k : (upI μ10 64 k d).1 64 k = d := by rw [rI, if_pos ⟨rfl, rfl⟩]
    have u64 : ∀ j, j < k → (upI μ10 64 k d).1 64 j = μ.1 64 j := fun j hj => by rw [rI, if_neg (by omega)]; exact q64 j
    have u65 : ∀ j, (upI μ10 64 k d).1 65 j = μ.1 65 j := fun j => by rw [rI, if_neg (by omega)]; exact q65 j
    generalize upI μ10 64 k d = μ12 at r12 u29 u63k u63 u64k u64 u65 ⊢
    rw [u64k, u63k]
    cases b1 : isD T (sA T k + 1) e 0 9
    · rw [b1] at hd r12
      have ed : d = -1 := hd.symm
      have gd : d < 0 := by rw [ed]; decide
      simp only [if_pos gd]
      have r12' : Rd T (sA T k + 1) e μ12 := r12
      refine ⟨⟨a1, vk, vk, fun _ => n1, vk, vk, fun _ => vk, fun y => absurd gd y⟩, ?_, u29, fun j hj => ⟨u63 j hj, u64 j hj, u65 j⟩⟩
      refine RdA_n (b := sA T k + 1) r12' hv ha (by omega) (by omega) (fun j h1 h2 => ?_) (fun y => ?_)
      · rw [show j = sA T k by omega]; exact st00
      · rw [st01]; exact isD_f b1 y
    · rw [b1] at hd r12
      obtain ⟨g1, g2⟩ := dgI_N hT b1
      have ed : d = dgI T (sA T k + 1) := hd.symm
      have gd : ¬ (d < 0) := by rw [ed, g1]; exact nI_pos (by omega)
      have st01' : stA T (sA T k) (sA T k + 1) = true := by rw [st01]; exact (isD_t b1).2
      have r12' : Rd T (sA T k + 2) e μ12 := r12
      have c2 : ((2 : Int32) ≤ w) ↔ 2 ≤ q := by rw [ew]; exact nI_leI (a := 2) (by omega) (by omega)
      have c22 : (w = 2) ↔ q = 2 := by rw [ew]; exact nI_eq (b := 2) (by omega) (by omega)
      have c23 : (w = 3) ↔ q = 3 := by rw [ew]; exact nI_eq (b := 3) (by omega) (by omega)
      simp only [if_neg gd, c2, c22, c23]
      by_cases k2 : 2 ≤ q
      · rw [if_pos k2, if_pos k2]
        by_cases k22 : q = 2
        · rw [if_pos k22, if_pos k22]
          obtain ⟨m1, m2, m3⟩ := R_number1 r12' hT
          have f23 := fs_X12_number 1 μ12
          rw [m2]
          have z29 : (e_X12_number 1 μ12).1 49 29 = nI (k + 1) := by rw [f23.1 49 29 (by decide) (.inr (by decide))]; exact u29
          have z63k : (e_X12_number 1 μ12).1 63 k = w := by rw [f23.1 63 k (by decide) (.inl (by decide))]; exact u63k
          have z63 : ∀ j, j < k → (e_X12_number 1 μ12).1 63 j = μ.1 63 j := fun j hj => by rw [f23.1 63 j (by decide) (.inl (by decide))]; exact u63 j hj
          have z64k : (e_X12_number 1 μ12).1 64 k = d := by rw [f23.1 64 k (by decide) (.inl (by decide))]; exact u64k
          have z64 : ∀ j, j < k → (e_X12_number 1 μ12).1 64 j = μ.1 64 j := fun j hj => by rw [f23.1 64 j (by decide) (.inl (by decide))]; exact u64 j hj
          have z65 : ∀ j, (e_X12_number 1 μ12).1 65 j = μ.1 65 j := fun j => by rw [f23.1 65 j (by decide) (.inl (by decide))]; exact u65 j
          generalize e_X12_number 1 μ12 = μ23 at m3 z29 z63k z63 z64k z64 z65 ⊢
          generalize hx : (if isD T (sA T k + 2) e 0 9 then nI (chT T (sA T k + 2)) - 48 else -1 : Int32) = x
          have y65 : (upI μ23 65 k x).1 65 k = x := by rw [rI, if_pos ⟨rfl, rfl⟩]
          have cc : chT T (sA T k) = 115 ∧ aln (chT T (sA T k)) = 3 := by omega
          have st02 : stA T (sA T k) (sA T k + 2) = decide (48 ≤ chT T (sA T k + 2) ∧ chT T (sA T k + 2) ≤ 57) := by
            unfold stA
            rw [if_neg (by omega), if_neg (by omega), if_neg (by omega)]
          have r25 : Rd T (if isD T (sA T k + 2) e 0 9 then sA T k + 2 + 1 else sA T k + 2) e (upI μ23 65 k x) := m3.fs (S := [65]) (Fs.rfl.up (by simp)) (by decide)
          rw [y65]
          refine ⟨⟨a1, vk, vk, fun _ => n1, vk, vk, fun y => absurd y gd, fun _ => ⟨vk, fun _ => ⟨vk, fun _ => ⟨m1, vk, vk⟩, fun y => absurd k22 y⟩, fun y => absurd k2 y⟩⟩, ?_, ?_, fun j hj => ⟨?_, ?_, ?_⟩⟩
          · cases b2 : isD T (sA T k + 2) e 0 9
            · rw [b2] at hx r25
              have ex : x = -1 := hx.symm
              have gx : x < 0 := by rw [ex]; decide
              rw [if_pos gx]
              refine RdA_n (b := sA T k + 2) r25 hv ha (by omega) (by omega) (fun j h1 h2 => ?_) (fun y => ?_)
              · by_cases j0 : j = sA T k
                · rw [j0]; exact st00
                · rw [show j = sA T k + 1 by omega]; exact st01'
              · rw [st02]; exact isD_f b2 y
            · rw [b2] at hx r25
              obtain ⟨g3, g4⟩ := dgI_N hT b2
              have ex : x = dgI T (sA T k + 2) := hx.symm
              have gx : ¬ (x < 0) := by rw [ex, g3]; exact nI_pos (by omega)
              rw [if_neg gx]
              have e3 : sA T (k + 1) = sA T k + 2 + 1 := by omega
              refine .inl ⟨rfl, by rw [e3]; exact r25, VdA_to hv (by omega) (Nat.le_refl _) (fun j h1 h2 => ?_), q, hq, ?_, ?_, fun _ => ?_⟩
              · by_cases j0 : j = sA T k
                · rw [j0]; exact st00
                · by_cases j1 : j = sA T k + 1
                  · rw [j1]; exact st01'
                  · rw [show j = sA T k + 2 by omega, st02]; exact (isD_t b2).2
              · rw [rI, if_neg (by omega), z63k, ew]
              · rw [rI, if_neg (by omega), z64k, ed]
              · rw [y65, ex]
                unfold a2V
                rw [if_pos cc.1]
          · rw [rI, if_neg (by omega)]; exact z29
          · rw [rI, if_neg (by omega)]; exact z63 j hj
          · rw [rI, if_neg (by omega)]; exact z64 j hj
          · rw [rI, if_neg (by omega)]; exact z65 j
        · rw [if_neg k22, if_neg k22]
          have ⟨W, hW, hWx, hWc⟩ : ∃ W : List Nat, TxW (if q = 3 then 2 else 1) W ∧ (∃ x y, W = [x, y] ∧ x ≠ y ∧ (q = 3 → x = 119 ∧ y = 101) ∧ (q = 4 → x = 45 ∧ y = 43)) ∧ True := by
            by_cases k3 : q = 3
            · rw [if_pos k3]
              exact ⟨_, tx2, ⟨119, 101, rfl, by decide, fun _ => ⟨rfl, rfl⟩, fun y => absurd y (by omega)⟩, trivial⟩
            · rw [if_neg k3]
              exact ⟨_, tx1, ⟨45, 43, rfl, by decide, fun y => absurd y k3, fun _ => ⟨rfl, rfl⟩⟩, trivial⟩
          obtain ⟨x, y, rfl, hxy, hx3, hx4⟩ := hWx
          generalize hp : (if q = 3 then 2 else 1 : Nat) = pp at hW ⊢
          obtain ⟨s1, s2, s3, s4⟩ := R_signed hW r12' hT
          have f33 := fs_X12_readsSigned pp μ12
          rw [s2]
          have z29 : (e_X12_readsSigned pp μ12).1 49 29 = nI (k + 1) := by rw [f33.1 49 29 (by decide) (.inr (by decide))]; exact u29
          have z63k : (e_X12_readsSigned pp μ12).1 63 k = w := by rw [f33.1 63 k (by decide) (.inl (by decide))]; exact u63k
          have z63 : ∀ j, j < k → (e_X12_readsSigned pp μ12).1 63 j = μ.1 63 j := fun j hj => by rw [f33.1 63 j (by decide) (.inl (by decide))]; exact u63 j hj
          have z64k : (e_X12_readsSigned pp μ12).1 64 k = d := by rw [f33.1 64 k (by decide) (.inl (by decide))]; exact u64k
          have z64 : ∀ j, j < k → (e_X12_readsSigned pp μ12).1 64 j = μ.1 64 j := fun j hj => by rw [f33.1 64 j (by decide) (.inl (by decide))]; exact u64 j hj
          have z65 : ∀ j, (e_X12_readsSigned pp μ12).1 65 j = μ.1 65 j := fun j => by rw [f33.1 65 j (by decide) (.inl (by decide))]; exact u65 j
          generalize e_X12_readsSigned pp μ12 = μ33 at s3 s4 z29 z63k z63 z64k z64 z65 ⊢
          have hq34 : (q = 3 ∧ chT T (sA T k) = 108) ∨ (q = 4 ∧ chT T (sA T k) = 116) := by omega
          have al4 : aln (chT T (sA T k)) = 4 := by omega
          have wx : sA T k + 2 < e → wxO [x, y] T (sA T k + 2) e = if chT T (sA T k + 2) = x then some 0 else if chT T (sA T k + 2) = y then some 1 else none := fun hlt => by
            unfold wxO
            rw [if_pos hlt]; exact wx2 x y _ hxy
          have st02 : stA T (sA T k) (sA T k + 2) = decide (chT T (sA T k + 2) = x ∨ chT T (sA T k + 2) = y) := by
            unfold stA
            rw [if_neg (by omega)]
            rcases hq34 with ⟨i1, i2⟩ | ⟨i1, i2⟩
            · obtain ⟨o1, o2⟩ := hx3 i1
              rw [if_pos ⟨rfl, i2⟩, o1, o2]
              exact decide_eq_decide.mpr (by omega)
            · obtain ⟨o1, o2⟩ := hx4 i1
              rw [if_neg (by omega), if_pos ⟨rfl, i2⟩, o1, o2]
              exact decide_eq_decide.mpr (by omega)
          have st03 : stA T (sA T k) (sA T k + 3) = decide (48 ≤ chT T (sA T k + 3) ∧ chT T (sA T k + 3) ≤ 57) := by
            unfold stA
            rw [if_neg (by omega), if_neg (by omega), if_neg (by omega)]
          refine ⟨⟨a1, vk, vk, fun _ => n1, vk, vk, fun y => absurd y gd, fun _ => ⟨vk, fun _ => ⟨vk, fun y => absurd y k22, fun _ => ⟨vk, s1, vk, nar_b _⟩⟩, fun y => absurd k2 y⟩⟩, ?_, ?_, fun j hj => ⟨?_, ?_, ?_⟩⟩
          · have rf : ∀ {b : Nat}, Rd T b e μ33 → Rd T b e (upI μ33 65 k (μ33.1 49 13)) := fun hb => hb.fs (S := [65]) (Fs.rfl.up (by simp)) (by decide)
            cases ho : wxO [x, y] T (sA T k + 2) e with
            | none =>
              rw [ho] at s3
              have s3' : Rd T (sA T k + 2) e μ33 := s3
              show RdA T e k (if (false && isD T (sA T k + 2 + 1) e 0 9) = true then 1 else 0) _
              rw [Bool.false_and, if_neg (by decide)]
              refine RdA_n (b := sA T k + 2) (rf s3') hv ha (by omega) (by omega) (fun j h1 h2 => ?_) (fun hlt => ?_)
              · by_cases j0 : j = sA T k
                · rw [j0]; exact st00
                · rw [show j = sA T k + 1 by omega]; exact st01'
              · rw [wx hlt] at ho
                rw [st02]
                by_cases o1 : chT T (sA T k + 2) = x
                · rw [if_pos o1] at ho; cases ho
                · rw [if_neg o1] at ho
                  by_cases o2 : chT T (sA T k + 2) = y
                  · rw [if_pos o2] at ho; cases ho
                  · exact decide_eq_false (fun w => w.elim o1 o2)
            | some t =>
              have hlt : sA T k + 2 < e := by
                rcases Nat.lt_or_ge (sA T k + 2) e with w | w
                · exact w
                · unfold wxO at ho
                  rw [if_neg (by omega)] at ho; cases ho
              have ho2 := wx hlt
              rw [ho] at ho2
              have st02' : stA T (sA T k) (sA T k + 2) = true := by
                rw [st02]
                by_cases o1 : chT T (sA T k + 2) = x
                · exact decide_eq_true (.inl o1)
                · by_cases o2 : chT T (sA T k + 2) = y
                  · exact decide_eq_true (.inr o2)
                  · rw [if_neg o1, if_neg o2] at ho2; cases ho2
              rw [ho] at s3
              show RdA T e k (if (true && isD T (sA T k + 3) e 0 9) = true then 1 else 0) _
              rw [Bool.true_and]
              cases b3 : isD T (sA T k + 3) e 0 9
              · have s3' : Rd T (sA T k + 3) e μ33 := by
                  have s4' : Rd T (if isD T (sA T k + 3) e 0 9 = true then sA T k + 2 + 2 else sA T k + 2 + 1) e μ33 := s3
                  rw [b3] at s4'; exact s4'
                rw [if_neg (by decide)]
                refine RdA_n (b := sA T k + 3) (rf s3') hv ha (by omega) (by omega) (fun j h1 h2 => ?_) (fun hl3 => ?_)
                · by_cases j0 : j = sA T k
                  · rw [j0]; exact st00
                  · by_cases j1 : j = sA T k + 1
                    · rw [j1]; exact st01'
                    · rw [show j = sA T k + 2 by omega]; exact st02'
                · rw [st03]; exact isD_f b3 hl3
              · have s3' : Rd T (sA T k + 4) e μ33 := by
                  have s4' : Rd T (if isD T (sA T k + 3) e 0 9 = true then sA T k + 2 + 2 else sA T k + 2 + 1) e μ33 := s3
                  rw [b3] at s4'; exact s4'
                have sv := s4 t ho b3
                rw [if_pos rfl]
                have e4 : sA T (k + 1) = sA T k + 4 := by omega
                refine .inl ⟨rfl, by rw [e4]; exact rf s3', VdA_to hv (by omega) (Nat.le_refl _) (fun j h1 h2 => ?_), q, hq, ?_, ?_, fun _ => ?_⟩
                · by_cases j0 : j = sA T k
                  · rw [j0]; exact st00
                  · by_cases j1 : j = sA T k + 1
                    · rw [j1]; exact st01'
                    · by_cases j2 : j = sA T k + 2
                      · rw [j2]; exact st02'
                      · rw [show j = sA T k + 3 by omega, st03]; exact (isD_t b3).2
                · rw [rI, if_neg (by omega), z63k, ew]
                · rw [rI, if_neg (by omega), z64k, ed]
                · rw [rI, if_pos ⟨rfl, rfl⟩, sv]
                  have e34 : dgI T (sA T k + 2 + 1) = dgI T (sA T k + 3) := rfl
                  rw [e34]
                  unfold a2V
                  rcases hq34 with ⟨i1, i2⟩ | ⟨i1, i2⟩
                  · obtain ⟨o1, o2⟩ := hx3 i1
                    rw [if_neg (show ¬ chT T (sA T k) = 115 by omega), if_pos i2]
                    rw [o1, o2] at ho2
                    by_cases w1 : chT T (sA T k + 2) = 119
                    · rw [if_pos w1] at ho2 ⊢
                      cases ho2
                      rw [if_neg (by decide)]
                    · rw [if_neg w1] at ho2 ⊢
                      by_cases w2 : chT T (sA T k + 2) = 101
                      · rw [if_pos w2] at ho2
                        cases ho2
                        rw [if_pos rfl]
                      · rw [if_neg w2] at ho2; cases ho2
                  · obtain ⟨o1, o2⟩ := hx4 i1
                    rw [if_neg (show ¬ chT T (sA T k) = 115 by omega), if_neg (show ¬ chT T (sA T k) = 108 by omega)]
                    rw [o1, o2] at ho2
                    by_cases w1 : chT T (sA T k + 2) = 45
                    · rw [if_pos w1] at ho2 ⊢
                      cases ho2
                      rw [if_neg (by decide)]
                    · rw [if_neg w1] at ho2 ⊢
                      by_cases w2 : chT T (sA T k + 2) = 43
                      · rw [if_pos w2] at ho2
                        cases ho2
                        rw [if_pos rfl]
                      · rw [if_neg w2] at ho2; cases ho2
          · rw [rI, if_neg (by omega)]; exact z29
          · rw [rI, if_neg (by omega)]; exact z63 j hj
          · rw [rI, if_neg (by omega)]; exact z64 j hj
          · rw [rI, if_neg (by omega)]; exact z65 j
      · rw [if_neg k2, if_neg k2]
        have al : aln (chT T (sA T k)) = 2 := by omega
        have e2 : sA T (k + 1) = sA T k + 2 := by omega
        refine ⟨⟨a1, vk, vk, fun _ => n1, vk, vk, fun y => absurd y gd, fun _ => ⟨vk, fun y => absurd y k2, fun _ => vk⟩⟩, .inl ⟨rfl, by rw [e2]; exact r12', VdA_to hv (by omega) (Nat.le_refl _) (fun j h1 h2 => ?_), q, hq, by rw [u63k, ew], by rw [u64k, ed], fun y => absurd y k2⟩, u29, fun j hj => ⟨u63 j hj, u64 j hj, u65 j⟩⟩
        by_cases j0 : j = sA T k
        · rw [j0]; exact st00
        · rw [show j = sA T k + 1 by omega]; exact st01'
end RA

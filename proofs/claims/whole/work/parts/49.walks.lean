/-! walks: the call -/
theorem StC.fr {rm ld : Nat → Nat} {μ μ' : Mm} {S : List Nat} (h : StC rm ld μ) (f : Fr S μ μ') (hb : 36 ∉ S ∧ 37 ∉ S) : StC rm ld μ' := by
  unfold StC; rw [f.1 36 hb.1, f.1 37 hb.2]; exact h
theorem Rows.fs {F : FL} {x : Int32} {a : Nat} {μ μ' : Mm} {S : List Nat} (h : Rows F x a μ) (f : Fs S μ μ') (hb : 66 ∉ S) : Rows F x a μ' := fun s hs => by
  rw [f.1 66 _ hb (.inl (by decide))]; exact h s hs
theorem sub3 (a b c : Int32) : a - b - c = a - (b + c) := by
  rw [Int32.sub_eq_add_neg, Int32.sub_eq_add_neg, Int32.sub_eq_add_neg, Int32.neg_add, Int32.add_assoc, ← Int32.sub_eq_add_neg (-b) c]
section WC
variable {σ : ST} {R : List Int64} {μ : Mm}
theorem C_wk77 (ok : OK σ) {rm : Nat → Nat} {L : Nat} {m : Int32} (hc : CSR σ [] μ) (hs : StC rm (ldN (s_F σ)) μ) (h0 : WI rm (ldN (s_F σ)) 0 L m) (f : Int32) : whP (fun s : Int32 × Int32 × Int32 × Int32 × Mm => bd_X11_walks_77 s.1 s.2.1 s.2.2.1 s.2.2.2.1 s.2.2.2.2) (fun s : Int32 × Int32 × Int32 × Int32 × Mm => sd_X11_walks_77 s.1 s.2.1 s.2.2.1 s.2.2.2.1 s.2.2.2.2) FU (f, nI L, 1 - m, 0, μ) ∧ (fun z : Int32 × Mm => z.1 = f ∧ CSR σ (rows (wF rm (ldN (s_F σ)) L m) (f_n (s_F σ))) z.2) (whl (fun s : Int32 × Int32 × Int32 × Int32 × Mm => bd_X11_walks_77 s.1 s.2.1 s.2.2.1 s.2.2.2.1 s.2.2.2.2) (fun s : Int32 × Int32 × Int32 × Int32 × Mm => (0, s.2.2.2.2)) FU (f, nI L, 1 - m, 0, μ)) := by
  have hn := ok.g.1
  have hw := wS_ok h0 hn (fun i hi => ⟨(ldN_I ok.g hi).2.2, (ldN_I ok.g hi).2.1, (hs i (by omega)).2.2.2⟩)
  refine lpI (f := fun s : Int32 × Int32 × Int32 × Int32 × Mm => bd_X11_walks_77 s.1 s.2.1 s.2.2.1 s.2.2.2.1 s.2.2.2.2) (sd := fun s : Int32 × Int32 × Int32 × Int32 × Mm => sd_X11_walks_77 s.1 s.2.1 s.2.2.1 s.2.2.2.1 s.2.2.2.2) (dd := fun s : Int32 × Int32 × Int32 × Int32 × Mm => (0, s.2.2.2.2)) (I := fun i z => i ≤ f_n (s_F σ) ∧ ∃ μ', z = (f, nI (wS rm (ldN (s_F σ)) L m i).1, 1 - (wS rm (ldN (s_F σ)) L m i).2, nI i, μ') ∧ CSR σ (rows (wF rm (ldN (s_F σ)) L m) i) μ' ∧ StC rm (ldN (s_F σ)) μ')
    (R := fun z : Int32 × Mm => z.1 = f ∧ CSR σ (rows (wF rm (ldN (s_F σ)) L m) (f_n (s_F σ))) z.2) (f_n (s_F σ)) (by omega) ?_ (s0 := (f, nI L, 1 - m, 0, μ)) ⟨by omega, μ, rfl, hc, hs⟩
  rintro i _ hi ⟨hi2, μ', rfl, hc', hs'⟩
  dsimp only
  unfold sd_X11_walks_77 bd_X11_walks_77
  rw [hc'.1.F.sz, nI_1]
  simp only [nI_leI (show f_n (s_F σ) < 2 ^ 31 by omega) (show i < 2 ^ 31 by omega), forall_eq]
  rcases Nat.lt_or_ge i (f_n (s_F σ)) with z | z
  · have hwi := hw i hi2
    obtain ⟨s1, s2, -⟩ := WI_step hwi (by omega) (ldN_I ok.g z).2.2 (ldN_I ok.g z).2.1 (hs' i (by omega)).2.2.2
    obtain ⟨a1, a2⟩ := C_farthest hs' (m := (wS rm (ldN (s_F σ)) L m i).2) (i := i) (left := (wS rm (ldN (s_F σ)) L m i).1) (by have := hwi.2.2.1; omega) (by omega) hwi.2.1
    change _ = nI (fai rm (ldN (s_F σ)) (wS rm (ldN (s_F σ)) L m i).2 i (wS rm (ldN (s_F σ)) L m i).1) at a2
    rw [if_neg (show ¬ f_n (s_F σ) ≤ i by omega), a2]
    obtain ⟨p1, c1⟩ := CSR_add hc' (by rw [rows_len]; omega) (wF rm (ldN (s_F σ)) L m i)
    have f1 := fr_X10_add (wF rm (ldN (s_F σ)) L m i) μ'
    have hs2 : StC rm (ldN (s_F σ)) (e_X10_add (wF rm (ldN (s_F σ)) L m i) μ') := hs'.fr f1 (by decide)
    have ew : (nI (fai rm (ldN (s_F σ)) (wS rm (ldN (s_F σ)) L m i).2 i (wS rm (ldN (s_F σ)) L m i).1)).toInt64 = wF rm (ldN (s_F σ)) L m i := rfl
    rw [ew]
    generalize e_X10_add (wF rm (ldN (s_F σ)) L m i) μ' = μ4 at c1 hs2 ⊢
    obtain ⟨l1, l2⟩ := C_load c1.1.F z
    rw [l2, ← (ldN_I ok.g z).1, nI_sub s1, sub3]
    exact ⟨fun _ => ⟨a1, p1, l1⟩, .inl ⟨_, rfl, z, z, _, rfl, c1, hs2⟩⟩
  · have : i = f_n (s_F σ) := by omega
    subst this
    rw [if_pos (Nat.le_refl _)]
    exact ⟨fun y => absurd (Nat.le_refl _) y, .inr ⟨_, rfl, rfl, hc'⟩⟩
theorem M_wk49 {F : FL} (g : RgF F) {x : Int32} {m : Int32} (hm : -1200 ≤ m.toInt ∧ m.toInt ≤ 1200) (hr : Rows F x 0 μ) : whP (fun s : Int32 × Int32 × Int32 => bd_X12_walks_49 μ s.1 s.2.1 s.2.2) (fun s : Int32 × Int32 × Int32 => sd_X12_walks_49 μ s.1 s.2.1 s.2.2) FU (x, m, 0) ∧ whl (fun s : Int32 × Int32 × Int32 => bd_X12_walks_49 μ s.1 s.2.1 s.2.2) (fun _ : Int32 × Int32 × Int32 => (0, 0, 0)) FU (x, m, 0) = (x, m, nI ((ff (qW (rmN F x) (ldN F) m) 0 127).getD 127)) := by
  refine lpI (f := fun s : Int32 × Int32 × Int32 => bd_X12_walks_49 μ s.1 s.2.1 s.2.2) (I := fun t z => t ≤ 127 ∧ z = (x, m, nI t) ∧ ff (qW (rmN F x) (ldN F) m) t (127 - t) = ff (qW (rmN F x) (ldN F) m) 0 127 ∧ ∀ j, j < t → qW (rmN F x) (ldN F) m j = false) (R := fun z => z = (x, m, nI ((ff (qW (rmN F x) (ldN F) m) 0 127).getD 127))) 127 (by omega) ?_ ⟨by omega, rfl, rfl, fun j h => absurd h (by omega)⟩
  rintro t _ ht ⟨ht2, rfl, hff, hno⟩
  dsimp only
  unfold sd_X12_walks_49 bd_X12_walks_49
  have gg : ((126 : Int32) < nI t) ↔ 126 < t := nI_ltI (a := 126) (by omega) (by omega)
  have es : v_X12_slot 0 (nI t) = nI t := by
    have := slot_N 0 t
    rw [Nat.mul_zero, Nat.zero_add] at this
    exact this
  rw [es, nI_clamp (by omega), nI_1]
  simp only [gg]
  rcases Nat.lt_or_ge 126 t with z | z
  · have : t = 127 := by omega
    subst this
    rw [if_pos z, ← hff]
    exact ⟨fun y => absurd z y, .inr ⟨_, rfl, rfl⟩⟩
  · rw [if_neg (show ¬ 126 < t by omega)]
    refine ⟨fun _ => vp_in_nI (by omega) (by omega), ?_⟩
    have hw := hr t (by omega)
    rw [Nat.mul_zero, Nat.zero_add] at hw
    have hb := wOK_b hw (by omega) (by omega)
    have ea : (m + μ.1 66 t).toInt = m.toInt + (μ.1 66 t).toInt := toInt_addS (by omega)
    rw [show 127 - t = (126 - t) + 1 by omega] at hff
    cases q : qW (rmN F x) (ldN F) m t
    · have q' : ¬ (0 < m + μ.1 66 t) := by
        rw [fa_lt, t0, ea]
        have h1 := of_decide_eq_false q
        obtain ⟨w1, w2, w3⟩ := hw
        rcases Nat.lt_or_ge (Rs (rmN F x) (ldN F) 1 0) t with y | y
        · have := w3 y; omega
        · have := w2 y; omega
      rw [if_neg q']
      rw [ff_n (P := qW (rmN F x) (ldN F) m) q] at hff
      refine .inl ⟨_, rfl, by omega, by omega, rfl, by rw [show 127 - (t + 1) = 126 - t by omega]; exact hff, fun j hj => ?_⟩
      by_cases e : j = t
      · rw [e]; exact q
      · exact hno j (by omega)
    · rw [ff_y (P := qW (rmN F x) (ldN F) m) q] at hff
      have hT := (WI_start hm hff.symm).1
      have q' : 0 < m + μ.1 66 t := by
        rw [fa_lt, t0, ea, hw.2.1 hT]
        exact of_decide_eq_true q
      rw [if_pos q', ← hff]
      exact .inr ⟨_, rfl, rfl⟩
theorem M_wk119 (ok : OK σ) (hm : MSR σ R μ) {x m : Int32} {i left : Nat} (hi : i < f_n (s_F σ)) (h : WI (rmN (s_F σ) x) (ldN (s_F σ)) i left m) (hr : Rows (s_F σ) x (i + 1) μ) (f : Int32) : whP (fun s : Int32 × Int32 × Int32 × Int32 × Int32 × Int32 => bd_X12_walks_119 μ s.1 s.2.1 s.2.2.1 s.2.2.2.1 s.2.2.2.2.1 s.2.2.2.2.2) (fun s : Int32 × Int32 × Int32 × Int32 × Int32 × Int32 => sd_X12_walks_119 μ s.1 s.2.1 s.2.2.1 s.2.2.2.1 s.2.2.2.2.1 s.2.2.2.2.2) FU (x, m, f, nI left, nI i, nI (min left (rmN (s_F σ) x i))) ∧ whl (fun s : Int32 × Int32 × Int32 × Int32 × Int32 × Int32 => bd_X12_walks_119 μ s.1 s.2.1 s.2.2.1 s.2.2.2.1 s.2.2.2.2.1 s.2.2.2.2.2) (fun _ : Int32 × Int32 × Int32 × Int32 × Int32 × Int32 => (0, 0, 0, 0, 0, 0)) FU (x, m, f, nI left, nI i, nI (min left (rmN (s_F σ) x i))) = (x, m, f, nI left, nI i, nI (fai (rmN (s_F σ) x) (ldN (s_F σ)) m i left)) := by
  have hn := ok.g.1
  have hrm := rmN_le ok.g (x := x) i
  have hld := ldN_I ok.g hi
  have ex := WI_ex h (by omega) hld.2.2 hld.2.1
  have hl126 := h.2.1
  have hmb := h.2.2.1
  refine lpI (f := fun s : Int32 × Int32 × Int32 × Int32 × Int32 × Int32 => bd_X12_walks_119 μ s.1 s.2.1 s.2.2.1 s.2.2.2.1 s.2.2.2.2.1 s.2.2.2.2.2) (I := fun t z => t ≤ min left (rmN (s_F σ) x i) ∧ z = (x, m, f, nI left, nI i, nI (min left (rmN (s_F σ) x i) - t)) ∧ fdn (pW (rmN (s_F σ) x) (ldN (s_F σ)) m i left) (min left (rmN (s_F σ) x i) - t) = fai (rmN (s_F σ) x) (ldN (s_F σ)) m i left ∧ ∃ y, y ≤ min left (rmN (s_F σ) x i) - t ∧ pW (rmN (s_F σ) x) (ldN (s_F σ)) m i left y = true)
    (R := fun z => z = (x, m, f, nI left, nI i, nI (fai (rmN (s_F σ) x) (ldN (s_F σ)) m i left))) (min left (rmN (s_F σ) x i)) (by omega) ?_ ⟨Nat.zero_le _, rfl, rfl, ex⟩
  clear ex
  rintro t _ ht ⟨ht2, rfl, hf, y, hy, hyp⟩
  dsimp only
  obtain ⟨u, hu⟩ : ∃ u, u = min left (rmN (s_F σ) x i) - t := ⟨_, rfl⟩
  rw [← hu] at hf hy ⊢
  obtain ⟨l1, l2⟩ := M_ld ok hm hi
  unfold sd_X12_walks_119 bd_X12_walks_119
  rw [l2, nI_1, nI_sub (by omega), slot_N, nI_clamp (by omega)]
  refine ⟨⟨l1, vp_in_nI (by omega) (by omega)⟩, ?_⟩
  have hw := hr (left - u) (by omega)
  have hb := wOK_b hw (by omega) (by omega)
  have hmul : u * ldN (s_F σ) i ≤ 18 * 18 := Nat.mul_le_mul (by omega) hld.2.1
  have e1 : (m + nI u * nI (ldN (s_F σ) i)).toInt = m.toInt + (u * ldN (s_F σ) i : Nat) := by
    rw [nI_mul, toInt_addS (by rw [nI_toInt (by omega)]; omega), nI_toInt (by omega)]
  have e2 : (m + nI u * nI (ldN (s_F σ) i) + μ.1 66 (127 * (i + 1) + (left - u))).toInt = m.toInt + (u * ldN (s_F σ) i : Nat) + (μ.1 66 (127 * (i + 1) + (left - u))).toInt := by
    rw [toInt_addS (by rw [e1]; omega), e1]
  cases q : pW (rmN (s_F σ) x) (ldN (s_F σ)) m i left u
  · have q' : ¬ (0 < m + nI u * nI (ldN (s_F σ) i) + μ.1 66 (127 * (i + 1) + (left - u))) := by
      rw [fa_lt, t0, e2]
      have h1 := of_decide_eq_false q
      obtain ⟨w1, w2, w3⟩ := hw
      rcases Nat.lt_or_ge (Rs (rmN (s_F σ) x) (ldN (s_F σ)) 1 (i + 1)) (left - u) with z | z
      · have := w3 z; omega
      · have := w2 z; omega
    have hu0 : 0 < u := by
      rcases Nat.eq_zero_or_pos u with z | z
      · rw [show y = u by omega, q] at hyp
        exact absurd hyp (by decide)
      · exact z
    obtain ⟨v, hv⟩ : ∃ v, u = v + 1 := ⟨u - 1, by omega⟩
    rw [if_neg q']
    refine .inl ⟨_, rfl, by omega, by omega, ?_, ?_, y, ?_, hyp⟩
    · rw [show min left (rmN (s_F σ) x i) - (t + 1) = v by omega, hv, ← Int32.sub_eq_add_neg, show (1 : Int32) = nI 1 from rfl, nI_sub (by omega)]; rfl
    · rw [show min left (rmN (s_F σ) x i) - (t + 1) = v by omega, ← hf, hv]
      rw [hv] at q
      show _ = if pW (rmN (s_F σ) x) (ldN (s_F σ)) m i left (v + 1) = true then v + 1 else _
      rw [q]; rfl
    · have : y ≠ u := fun z => by rw [z, q] at hyp; exact absurd hyp (by decide)
      omega
  · have hnb : left - u ≤ Rs (rmN (s_F σ) x) (ldN (s_F σ)) 1 (i + 1) := by
      rcases Nat.lt_or_ge (Rs (rmN (s_F σ) x) (ldN (s_F σ)) 1 (i + 1)) (left - u) with z | z
      · rw [WI_bad h (by omega) hld.2.1 (by omega) (by omega) z] at q
        exact absurd q (by decide)
      · exact z
    have q' : 0 < m + nI u * nI (ldN (s_F σ) i) + μ.1 66 (127 * (i + 1) + (left - u)) := by
      rw [fa_lt, t0, e2, hw.2.1 hnb]
      have h1 := of_decide_eq_true q
      omega
    rw [if_pos q']
    refine .inr ⟨_, rfl, ?_⟩
    rw [← hf]
    cases u with
    | zero => rfl
    | succ u =>
      show _ = (x, m, f, nI left, nI i, nI (if pW (rmN (s_F σ) x) (ldN (s_F σ)) m i left (u + 1) = true then u + 1 else _))
      rw [q]; rfl
end WC

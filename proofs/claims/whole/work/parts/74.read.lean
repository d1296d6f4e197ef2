/-! the class reads a rule -/
def rs0 : RS := ([], [], true, 0, (fun _ => false), 0)
def gdR (T : List Nat) (b : Nat) (S : RS) : Prop := T.length ≤ 40 ∧ b = T.length ∧ S.2.2.1 = false ∧ S.2.2.2.1 = 0
/-- how many brackets wait -/
def n40 (k : List Nat) : Nat := (k.filter (fun y => decide (y = 40))).length
theorem n40_c {y : Nat} {k : List Nat} : n40 (y :: k) = (if y = 40 then 1 else 0) + n40 k := by
  unfold n40
  by_cases q : y = 40
  · rw [List.filter_cons_of_pos (by simpa using q), if_pos q, List.length_cons]; omega
  · rw [List.filter_cons_of_neg (by simpa using q), if_neg q]; omega
theorem n40_d {r : Nat} (hr : 1 ≤ r) : ∀ {k : List Nat}, n40 (dw r k) = n40 k
  | [] => rfl
  | y :: k => by
    by_cases q : r ≤ rkO y
    · have : dw r (y :: k) = dw r k := by unfold dw; rw [List.dropWhile_cons_of_pos (by simpa using q)]
      rw [this, n40_d hr, n40_c, if_neg (fun e => by rw [e] at q; have : rkO 40 = 0 := rfl; omega)]; omega
    · have : dw r (y :: k) = y :: k := by unfold dw; rw [List.dropWhile_cons_of_neg (by simpa using q)]
      rw [this]
theorem okK_0 {y : Nat} (h : okK y) (hr : rkO y < 1) : y = 40 := by
  rcases h with h | h | h
  · rw [h] at hr; exact absurd hr (by decide)
  · exact h
  · unfold rkO at hr
    by_cases q : y = 126
    · rw [if_pos q] at hr; omega
    · rw [if_neg q] at hr; omega
theorem n40_s {o k o' k' : List Nat} {w w' : Bool} {d d' g g' x : Nat} {c c' : Nat → Bool} (hK : ∀ y, y ∈ k → okK y) (h : n40 k = d) (hs : stp o k w d c g x = some (o', k', w', d', c', g')) : n40 k' = d' := by
  unfold stp at hs
  cases w
  · rw [if_neg (by decide)] at hs
    by_cases x1 : 48 ≤ x ∧ x ≤ 57
    · rw [if_pos x1] at hs
      by_cases y : 1 ≤ g ∧ g < 3
      · rw [if_pos y] at hs; cases hs; exact h
      · rw [if_neg y] at hs; cases hs
    · rw [if_neg x1] at hs
      by_cases x2 : x = 41
      · rw [if_pos x2] at hs
        by_cases y : 1 ≤ d
        · rw [if_pos y] at hs; cases hs
          have h1 := n40_d (r := 1) (by omega) (k := k)
          cases hd : dw 1 k with
          | nil => rw [hd, show n40 [] = 0 from rfl] at h1; omega
          | cons z k2 =>
            have hz : z = 40 := okK_0 (hK z (dw_in (r := 1) (by rw [hd]; exact List.mem_cons_self))) (dw_hd hd)
            rw [hd, n40_c, if_pos hz] at h1
            rw [List.tail_cons]; omega
        · rw [if_neg y] at hs; cases hs
      · rw [if_neg x2] at hs
        by_cases x3 : brk x = 0
        · rw [if_pos x3] at hs; cases hs
        · rw [if_neg x3] at hs
          by_cases x4 : brk x = 1 ∧ c d = true
          · rw [if_pos x4] at hs; cases hs
          · rw [if_neg x4] at hs; cases hs
            rw [n40_c, n40_d (by omega), if_neg (fun e => x3 (by rw [e]; rfl))]; omega
  · rw [if_pos rfl] at hs
    by_cases x1 : x = 45
    · rw [if_pos x1] at hs; cases hs
      rw [n40_c, if_neg (by decide)]; omega
    · rw [if_neg x1] at hs
      by_cases x2 : x = 40
      · rw [if_pos x2] at hs
        by_cases y : d < 4
        · rw [if_pos y] at hs; cases hs
          rw [n40_c, if_pos rfl]; omega
        · rw [if_neg y] at hs; cases hs
      · rw [if_neg x2] at hs
        by_cases x3 : 48 ≤ x ∧ x ≤ 57
        · rw [if_pos x3] at hs; cases hs; exact h
        · rw [if_neg x3] at hs
          cases ht : thg' x with
          | none => rw [ht] at hs; cases hs
          | some t => rw [ht] at hs; cases hs; exact h
theorem dw_nil {k : List Nat} (hK : ∀ y, y ∈ k → okK y) (h : n40 k = 0) : dw 1 k = [] := by
  have h1 := n40_d (r := 1) (by omega) (k := k)
  cases hd : dw 1 k with
  | nil => rfl
  | cons z k2 =>
    have hz : z = 40 := okK_0 (hK z (dw_in (r := 1) (by rw [hd]; exact List.mem_cons_self))) (dw_hd hd)
    rw [hd, n40_c, if_pos hz] at h1
    omega
section YF
variable {T : List Nat} {μ : Mm}
theorem C_start : McS rs0 (e_X5_startReading 20 μ) := by
  have e1 : e_X5_startReading 20 μ = upI (upI (upI (upI (upI (upI (upI μ 20 1 0) 20 2 0) 23 1 0) 20 5 1) 20 6 0) 20 7 0) 20 8 0 := rfl
  rw [e1]
  refine ⟨⟨?_, fun i hi => absurd hi (by simp [rs0])⟩, ?_, ⟨?_, fun i hi => absurd hi (by simp [rs0])⟩, ?_, ?_, fun j hj => ?_, ?_⟩
  · rw [rI, if_neg (by omega), rI, if_neg (by omega), rI, if_neg (by omega), rI, if_neg (by omega), rI, if_neg (by omega), rI, if_neg (by omega), rI, if_pos ⟨rfl, rfl⟩]; rfl
  · show (upI _ 20 8 _).1 20 2 = _
    rw [rI, if_neg (by omega), rI, if_neg (by omega), rI, if_neg (by omega), rI, if_neg (by omega), rI, if_neg (by omega), rI, if_pos ⟨rfl, rfl⟩]; rfl
  · rw [rI, if_neg (by omega), rI, if_neg (by omega), rI, if_neg (by omega), rI, if_neg (by omega), rI, if_pos ⟨rfl, rfl⟩]; rfl
  · rw [rI, if_neg (by omega), rI, if_neg (by omega), rI, if_neg (by omega), rI, if_pos ⟨rfl, rfl⟩]; rfl
  · rw [rI, if_neg (by omega), rI, if_neg (by omega), rI, if_pos ⟨rfl, rfl⟩]; rfl
  · rw [rI, if_neg (by omega), rI, if_pos ⟨rfl, rfl⟩, b_0]; rfl
  · rw [rI, if_pos ⟨rfl, rfl⟩]; rfl
theorem C_rd29 (hx : TxC T μ) (hT : ∀ i, chT T i < 256) (h0 : McS rs0 μ) : whP (fun s : Int32 × Int32 × Mm => bd_X5_read_29 20 s.1 s.2.1 s.2.2) (fun s : Int32 × Int32 × Mm => sd_X5_read_29 20 s.1 s.2.1 s.2.2) FU (nI (min 40 T.length), 0, μ) ∧ (fun z : Int32 × Mm => ∃ b S, EnR T rs0 (min 40 T.length) b S ∧ ((gdR T b S ∧ z.1 = -1 ∧ RuC 20 (S.1 ++ (tw 1 S.2.1).map cdO) z.2) ∨ (¬ gdR T b S ∧ z.1 = nI b))) (whl (fun s : Int32 × Int32 × Mm => bd_X5_read_29 20 s.1 s.2.1 s.2.2) (fun s : Int32 × Int32 × Mm => (0, s.2.2)) FU (nI (min 40 T.length), 0, μ)) := by
  have hl := hx.1
  refine lpI (f := fun s : Int32 × Int32 × Mm => bd_X5_read_29 20 s.1 s.2.1 s.2.2) (sd := fun s : Int32 × Int32 × Mm => sd_X5_read_29 20 s.1 s.2.1 s.2.2) (dd := fun s : Int32 × Int32 × Mm => (0, s.2.2))
    (I := fun i s => i ≤ min 40 T.length ∧ ∃ o k w d c g μ', s = (nI (min 40 T.length), nI i, μ') ∧ Rn T 0 rs0 i (o, k, w, d, c, g) ∧ McC o k w d c g μ' ∧ InV o k w d g i ∧ n40 k = d ∧ TxC T μ')
    (R := fun z : Int32 × Mm => ∃ b S, EnR T rs0 (min 40 T.length) b S ∧ ((gdR T b S ∧ z.1 = -1 ∧ RuC 20 (S.1 ++ (tw 1 S.2.1).map cdO) z.2) ∨ (¬ gdR T b S ∧ z.1 = nI b))) (min 40 T.length) (by omega) ?_ (s0 := (nI (min 40 T.length), 0, μ)) ⟨Nat.zero_le _, [], [], true, 0, (fun _ => false), 0, μ, rfl, Rn.rfl, h0, InV_0, rfl, hx⟩
  rintro i _ hi ⟨hi2, o, k, w, d, c, g, μ', rfl, hrn, hmc, hin, h40, hx'⟩
  dsimp only
  unfold sd_X5_read_29 bd_X5_read_29
  have h5 := hmc.2.2.2.1
  have h6 := hmc.2.2.2.2.1
  have hd4 := hin.2.2.2.2.2.2.2
  have l0 : (nI d ≤ 0) ↔ d ≤ 0 := nI_leI (b := 0) (by omega) (by omega)
  rw [hx'.2.1, h5, h6]
  simp only [nI_leI (show min 40 T.length < 2 ^ 31 by omega) (show i < 2 ^ 31 by omega), nI_ltI (show min 40 T.length < 2 ^ 31 by omega) (show T.length < 2 ^ 31 by omega), l0]
  rcases Nat.lt_or_ge i (min 40 T.length) with z | z
  · obtain ⟨a1, a2⟩ := C_at hx' hT (i := i) (by omega)
    simp only [show ¬ min 40 T.length ≤ i from by omega, if_false, false_imp_iff, true_and, not_false_eq_true, true_imp_iff]
    rw [a2, nI_1]
    cases w
    · obtain ⟨c1, c2, c3⟩ := C_behind hmc hin (by omega) (hT i)
      have w0 : (if false = true then (1 : Int32) else 0) = 0 := rfl
      rw [w0]
      simp only [if_true, true_imp_iff, not_true_eq_false, false_imp_iff, and_true]
      refine ⟨⟨a1, c1⟩, ?_⟩
      cases hs : stp o k false d c g (chT T i) with
      | none =>
        rw [if_pos (c3 hs)]
        exact .inr ⟨_, rfl, i, _, ⟨hi2, hrn, fun _ => hs⟩, .inr ⟨fun y => by have := y.2.1; have := y.1; omega, rfl⟩⟩
      | some S' =>
        obtain ⟨d1, d2⟩ := c2 S' hs
        rw [if_neg d1]
        obtain ⟨o2, k2, w2, dd2, cc2, g2⟩ := S'
        refine .inl ⟨_, rfl, z, z, o2, k2, w2, dd2, cc2, g2, _, rfl, hrn.tr (Rn.st hs), d2, InV_s hin hs, n40_s hin.2.2.2.1 h40 hs, hx'.fr (fr_X5_takeBehindThing 20 _ μ') (by decide)⟩
    · obtain ⟨c1, c2, c3⟩ := C_thing hmc hin (by omega) (hT i)
      have w0 : (if true = true then (1 : Int32) else 0) = 1 := rfl
      have o1 : ¬ ((1 : Int32) = 0) := by decide
      rw [w0]
      simp only [o1, if_false, false_imp_iff, true_and, not_false_eq_true, true_imp_iff]
      refine ⟨⟨a1, c1⟩, ?_⟩
      cases hs : stp o k true d c g (chT T i) with
      | none =>
        rw [if_pos (c3 hs)]
        exact .inr ⟨_, rfl, i, _, ⟨hi2, hrn, fun _ => hs⟩, .inr ⟨fun y => by have := y.2.1; have := y.1; omega, rfl⟩⟩
      | some S' =>
        obtain ⟨d1, d2⟩ := c2 S' hs
        rw [if_neg d1]
        obtain ⟨o2, k2, w2, dd2, cc2, g2⟩ := S'
        refine .inl ⟨_, rfl, z, z, o2, k2, w2, dd2, cc2, g2, _, rfl, hrn.tr (Rn.st hs), d2, InV_s hin hs, n40_s hin.2.2.2.1 h40 hs, hx'.fr (fr_X5_takeThing 20 _ μ') (by decide)⟩
  · have ei : i = min 40 T.length := by omega
    have hE : EnR T rs0 (min 40 T.length) i (o, k, w, d, c, g) := ⟨hi2, hrn, fun y => absurd y (by omega)⟩
    simp only [show min 40 T.length ≤ i from z, if_true, true_imp_iff, not_true_eq_false, false_imp_iff, and_true]
    by_cases y1 : min 40 T.length < T.length
    · simp only [y1, if_true, not_true_eq_false, false_imp_iff, true_and]
      refine .inr ⟨_, rfl, i, _, hE, .inr ⟨fun y => by have := y.1; omega, by rw [ei]⟩⟩
    · simp only [y1, if_false, not_false_eq_true, true_imp_iff]
      cases w
      · have w0 : (if false = true then (1 : Int32) else 0) = 0 := rfl
        rw [w0]
        simp only [if_true, true_imp_iff]
        by_cases y2 : d ≤ 0
        · have n1 : nI 1 = 1 := rfl
          obtain ⟨i1, i2, i3, i4, i5, i6, i7, i8⟩ := hin
          obtain ⟨m1, m2, m3, m4⟩ := C_emitW (r := 1) (by omega) (by omega) hmc.1 hmc.2.2.1 (by omega) i4
          rw [n1] at m1 m2 m3 m4
          simp only [y2, if_true, true_imp_iff]
          refine ⟨m1, .inr ⟨_, rfl, i, _, hE, .inl ⟨⟨by omega, by omega, rfl, by show d = 0; omega⟩, rfl, ?_⟩⟩⟩
          have hg : gdR T i (o, k, false, d, c, g) := ⟨by omega, by omega, rfl, by show d = 0; omega⟩
          have i3' : dpt o 0 = some (nbK k + 1) := i3
          have hdp := dpt_tw (r := 1) (by omega) i3'
          have hln := tdw 1 k
          have hdn := dw_nil i4 (show n40 k = 0 by omega)
          rw [hdn] at hdp hln
          refine ⟨?_, wfd_of (okT_tw (by omega) i2) hdp, m2.1, m2.2, ?_⟩
          · simp only [List.length_append, List.length_map]
            rw [List.length_nil] at hln
            omega
          · rw [m4 2 (by omega)]
            have h2 : μ'.1 20 2 = if 1004 ∈ o then 1 else 0 := hmc.2.1
            rw [h2]
            simp only [Cr_tw (o := o) (k := k) (r := 1) (by omega)]
        · simp only [y2, if_false, false_imp_iff, true_and]
          exact .inr ⟨_, rfl, i, _, hE, .inr ⟨fun y => y2 (by have : d = 0 := y.2.2.2; omega), by rw [ei]⟩⟩
      · have w0 : (if true = true then (1 : Int32) else 0) = 1 := rfl
        have o1 : ¬ ((1 : Int32) = 0) := by decide
        rw [w0]
        simp only [o1, if_false, false_imp_iff, true_and]
        exact .inr ⟨_, rfl, i, _, hE, .inr ⟨fun y => absurd (show true = false from y.2.2.1) (by decide), by rw [ei]⟩⟩
end YF

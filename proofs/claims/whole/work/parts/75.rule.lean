/-! a rule is read, on both sides -/
def ru0 : List Nat := [1000, 1001, 2004]
/-- what a text tells: its codes, or where it stops -/
def rdV (T : List Nat) (b : Nat) (S : RS) : Int32 := if T.length = 0 then 0 else if (T.length ≤ 40 ∧ b = T.length ∧ S.2.2.1 = false ∧ S.2.2.2.1 = 0) then 0 else -1 - nI b
def okR (T : List Nat) (b : Nat) (S : RS) : Prop := T.length = 0 ∨ gdR T b S
def rdL (T : List Nat) (S : RS) : List Nat := if T.length = 0 then ru0 else S.1 ++ (tw 1 S.2.1).map cdO
theorem run_inv {T : List Nat} : ∀ {n a : Nat} {S S' : RS}, InV S.1 S.2.1 S.2.2.1 S.2.2.2.1 S.2.2.2.2.2 a → run T n a S = some S' → InV S'.1 S'.2.1 S'.2.2.1 S'.2.2.2.1 S'.2.2.2.2.2 (a + n)
  | 0, a, S, S', hi, h => by cases h; exact hi
  | n + 1, a, S, S', hi, h => by
    have h' : (stpS S (chT T a)).bind (run T n (a + 1)) = some S' := h
    cases hs : stpS S (chT T a) with
    | none => rw [hs] at h'; cases h'
    | some S2 =>
      rw [hs] at h'
      obtain ⟨o2, k2, w2, d2, c2, g2⟩ := S2
      have h2 := InV_s hi hs
      have := run_inv (T := T) (n := n) (a := a + 1) (S := (o2, k2, w2, d2, c2, g2)) (S' := S') h2 h'
      rw [show a + (n + 1) = a + 1 + n by omega]; exact this
theorem EnR_inv {T : List Nat} {e b : Nat} {S : RS} (h : EnR T rs0 e b S) : InV S.1 S.2.1 S.2.2.1 S.2.2.2.1 S.2.2.2.2.2 b := by
  obtain ⟨h1, ⟨h2, h3⟩, h4⟩ := h
  have := run_inv (S := rs0) InV_0 h3
  rw [show 0 + (b - 0) = b by omega] at this; exact this
section RU
variable {σ : ST} {R : List Int64} {μ : Mm} {T : List Nat}
theorem C_none (h : OuC [] μ) (h2 : μ.1 20 2 = 0) : p_X5_becomeNone 20 μ ∧ RuC 20 ru0 (e_X5_becomeNone 20 μ) := by
  unfold p_X5_becomeNone e_X5_becomeNone
  simp only [forall_eq]
  obtain ⟨a1, a2, a3, a4⟩ := C_emit (t := 1000) (x := -1) h (by simp) (by decide)
  obtain ⟨b1, b2, b3, b4⟩ := C_emit (t := 1001) (x := -2) a2 (by simp) (by decide)
  obtain ⟨c1, c2, c3, c4⟩ := C_emit (t := 2004) (x := -45) b2 (by simp) (by decide)
  refine ⟨⟨a1, b1, c1⟩, by decide, ?_, c2.1, c2.2, ?_⟩
  · exact wfd_of (by intro t ht; simp [ru0] at ht; unfold okT; omega) rfl
  · rw [c3 2 (by omega), b3 2 (by omega), a3 2 (by omega), h2]
    rfl
theorem C_read (hx : TxC T μ) (hT : ∀ i, chT T i < 256) : p_X5_read 20 μ ∧ ∃ b S, (T.length = 0 ∨ EnR T rs0 (min 40 T.length) b S) ∧ b ≤ 40 ∧ ((okR T b S ∧ v_X5_read 20 μ = -1 ∧ RuC 20 (rdL T S) (e_X5_read 20 μ)) ∨ (¬ okR T b S ∧ v_X5_read 20 μ = nI b)) := by
  have hl := hx.1
  have f1 := fr_X5_startReading 20 μ
  have hx1 : TxC T (e_X5_startReading 20 μ) := hx.fr f1 (by decide)
  have hs := C_start (μ := μ)
  unfold p_X5_read v_X5_read e_X5_read
  simp only [forall_eq]
  generalize e_X5_startReading 20 μ = μ1 at hx1 hs ⊢
  have g0 : (nI T.length = 0) ↔ T.length = 0 := nI_eq (b := 0) (by omega) (by omega)
  have g40 : ((40 : Int32) < nI T.length) ↔ 40 < T.length := nI_ltI (a := 40) (by omega) (by omega)
  have em : (if (40 : Int32) < nI T.length then 40 else nI T.length) = nI (min 40 T.length) := by
    by_cases q : 40 < T.length
    · rw [if_pos (g40.mpr q), show min 40 T.length = 40 by omega]; rfl
    · rw [if_neg (fun y => q (g40.mp y)), show min 40 T.length = T.length by omega]
  rw [hx1.2.1, em]
  simp only [g0]
  by_cases q : T.length = 0
  · obtain ⟨a1, a2⟩ := C_none hs.1 hs.2.1
    simp only [q, if_true, true_imp_iff, not_true_eq_false, false_imp_iff, and_true]
    refine ⟨a1, 0, rs0, .inl trivial, by omega, .inl ⟨.inl q, trivial, ?_⟩⟩
    unfold rdL
    rw [if_pos q]; exact a2
  · obtain ⟨k1, b, S, k2, k3⟩ := C_rd29 hx1 hT hs
    simp only [q, if_false, false_imp_iff, true_and, not_false_eq_true, true_imp_iff]
    refine ⟨k1, b, S, .inr k2, by have := k2.1; omega, ?_⟩
    generalize (whl _ _ FU ((nI (min 40 T.length), 0, μ1) : Int32 × Int32 × Mm) : Int32 × Mm) = z at k3 ⊢
    rcases k3 with ⟨c1, c2, c3⟩ | ⟨c1, c2⟩
    · refine .inl ⟨.inr c1, c2, ?_⟩
      unfold rdL
      rw [if_neg q]; exact c3
    · exact .inr ⟨fun y => y.elim q c1, c2⟩
theorem M_fault40 {b e : Nat} {f : Int32} (hl2 : T.length ≤ 80) (he : e = min 40 T.length) (hr : Rd T b e μ) (hf : f = 1 ∨ f = 0) : v_X12_faultOf (nI T.length) 40 f μ = if T.length ≤ 40 ∧ f = 1 ∧ b = T.length then 0 else -1 - nI b := by
  obtain ⟨h1, h2, h3, h4, h5, -⟩ := hr
  have g40 : (nI T.length ≤ 40) ↔ T.length ≤ 40 := nI_leI (b := 40) (by omega) (by omega)
  have gl : (nI b < 40) ↔ b < 40 := nI_ltI (b := 40) (by omega) (by omega)
  have ge : (nI b = nI e) ↔ b = e := nI_eq (by omega) (by omega)
  have n40 : nI 40 = 40 := rfl
  have o1 : ¬ ((1 : Int32) = 0) := by decide
  have o2 : ¬ ((0 : Int32) = 1) := by decide
  unfold v_X12_faultOf
  rw [h4, h5]
  simp only [g40, gl, ge]
  generalize hV : (-1 : Int32) - nI b = V
  by_cases w : T.length ≤ 40
  · have ee : e = T.length := by omega
    rw [if_pos w, ee]
    rcases hf with f1 | f0
    · subst f1
      by_cases y : b = T.length
      · simp [w, y]
      · simp [w, y]
    · subst f0
      simp [w]
  · rw [if_neg w, if_neg (show ¬ (T.length ≤ 40 ∧ f = 1 ∧ b = T.length) from fun y => w y.1)]
    rcases hf with f1 | f0
    · subst f1
      rw [if_neg o1]
      by_cases y : b = e
      · rw [if_pos y, if_neg o1, ← hV, show b = 40 by omega, n40]
      · rw [if_neg y, if_pos rfl, if_pos (show b < 40 by omega)]
    · subst f0
      rw [if_pos rfl, if_pos rfl]
      by_cases y : b < 40
      · rw [if_pos y]
      · rw [if_neg y, ← hV, show b = 40 by omega, n40]
theorem M_readsRule (ok : OK σ) (h : MSR σ R μ) : p_X12_readsRule μ ∧ ∃ b S, ((s_T σ).length = 0 ∨ EnR (s_T σ) rs0 (min 40 (s_T σ).length) b S) ∧ b ≤ 40 ∧ MSR (setT σ []) R (e_X12_readsRule μ) ∧ Fs [58, 1009, 1010, 1011, 1012, 1020] μ (e_X12_readsRule μ) ∧ ((okR (s_T σ) b S ∧ v_X12_readsRule μ = 0 ∧ ∃ L, L.length ≤ 40 ∧ LsM L (e_X12_readsRule μ) ∧ ((L = [] ∧ rdL (s_T σ) S = ru0) ∨ (L ≠ [] ∧ rdL (s_T σ) S = L))) ∨ (¬ okR (s_T σ) b S ∧ v_X12_readsRule μ = -1 - nI b)) := by
  have hT : ∀ i, chT (s_T σ) i < 256 := ok.2.2.1
  have n40 : nI 40 = 40 := rfl
  obtain ⟨b1, b2, b3⟩ := M_begins h.1 (m := 40) (by omega)
  have t2 := h.2.fs (fs_X12_begins 40 μ) (by decide)
  rw [n40] at b1 b2 b3
  have m12 : (e_X12_begins 40 μ).1 49 12 = nI 0 := by
    unfold e_X12_begins
    dsimp only
    rw [rI, if_neg (by omega), rI, if_pos ⟨rfl, rfl⟩]; rfl
  have f1 : Fs [58, 1009, 1010, 1011, 1012, 1020] μ (e_X12_begins 40 μ) := Fs.rfl.call (fs_X12_begins 40 μ) (by decide)
  unfold p_X12_readsRule v_X12_readsRule e_X12_readsRule
  simp only [forall_eq]
  rw [b1]
  generalize e_X12_begins 40 μ = μ1 at b2 b3 t2 m12 f1 ⊢
  have f2 : Fs [1020] μ1 (upI μ1 49 20 0) := Fs.rfl.upF (by simp)
  have h2 : MSR (setT σ []) R (upI μ1 49 20 0) := ⟨b3.fs f2 (by decide), t2.fs f2 (by decide)⟩
  have r2 : Rd (s_T σ) 0 (min 40 (s_T σ).length) (upI μ1 49 20 0) := b2.up (by decide) _
  have k2 : LsM [] (upI μ1 49 20 0) := ⟨by rw [rI, if_pos ⟨rfl, rfl⟩]; rfl, fun i hi => absurd hi (by simp)⟩
  have m2 : (upI μ1 49 20 0).1 49 12 = nI 0 := by rw [rI, if_neg (by omega)]; exact m12
  have f3 : Fs [58, 1009, 1010, 1011, 1012, 1020] μ (upI μ1 49 20 0) := f1.upF (by simp)
  generalize upI μ1 49 20 0 = μ2 at h2 r2 k2 m2 f3 ⊢
  have hl := b2.1
  have g0 : (nI (s_T σ).length = 0) ↔ (s_T σ).length = 0 := nI_eq (b := 0) (by omega) (by omega)
  simp only [g0]
  by_cases q : (s_T σ).length = 0
  · simp only [q, if_true, not_true_eq_false, false_imp_iff, true_and]
    have fv := M_fault40 (f := 1) hl rfl r2 (.inl rfl)
    rw [q] at fv
    rw [fv, if_pos ⟨by omega, rfl, rfl⟩]
    refine ⟨0, rs0, .inl trivial, by omega, h2, f3, .inl ⟨.inl q, rfl, [], by simp, k2, .inl ⟨rfl, ?_⟩⟩⟩
    unfold rdL
    rw [if_pos q]
  · simp only [q, if_false, not_false_eq_true, true_imp_iff, false_or]
    have he40 : min 40 (s_T σ).length ≤ 40 := by omega
    obtain ⟨j1, j2, j3⟩ := (reads_all (e := min 40 (s_T σ).length) hT 100).2 0 0 [] [] 0 (fun _ => false) μ2 (by omega) ⟨r2, m2, by omega, k2, by simp, he40⟩ (fun _ => by decide) (fun _ => rfl) (by omega)
    have z0 : nI 0 = 0 := rfl
    rw [z0] at j1 j2 j3
    have p3 : p_X12_readsRank 0 μ2 := j1
    have e3 : e_X12_readsRank 0 μ2 = ((rdFP 100).1 (some 0) μ2).2 := rfl
    have v3 : v_X12_readsRank 0 μ2 = ((rdFP 100).1 (some 0) μ2).1 := rfl
    rw [e3, v3]
    generalize (rdFP 100).1 (some 0) μ2 = Z at j2 j3 ⊢
    have h7 : MSR (setT σ []) R Z.2 := ⟨h2.1.fs j2 (by decide), h2.2.fs j2 (by decide)⟩
    have f7 := f3.call j2 (by decide)
    rcases j3 with ⟨v1, b, o', P, c', g', s1, s2, s3, s4, s5, s6, s7, s8, s9⟩ | ⟨v0, b, S, m, s1, s2, s3, s4, s5, s6⟩
    · have hb := s1.2.2.1
      have hln := s5.ln (by unfold lnS; simp)
      have hln' : o'.length + (P ++ []).length ≤ b := hln
      rw [List.append_nil] at hln'
      rw [v1, if_neg (show ¬ ((1 : Int32) = 0) by decide)]
      have fv := M_fault40 (f := 1) hl rfl s1 (.inl rfl)
      rw [fv]
      obtain ⟨w1, w2⟩ := tw_all (r := 1) (P := P) (k := []) s6 (by decide)
      refine ⟨p3, b, (o', P ++ [], false, 0, c', g'), ⟨hb, s5, fun y => ?_⟩, by omega, h7, f7, ?_⟩
      · obtain ⟨u1, u2⟩ := s9 y
        exact stp_x u1 (fun w => (u2 w).2) (fun _ => rfl)
      · by_cases gd : (s_T σ).length ≤ 40 ∧ (1 : Int32) = 1 ∧ b = (s_T σ).length
        · rw [if_pos gd]
          have hgd : gdR (s_T σ) b (o', P ++ [], false, 0, c', g') := ⟨gd.1, gd.2.2, rfl, rfl⟩
          have er : rdL (s_T σ) (o', P ++ [], false, 0, c', g') = o' ++ P.map cdO := by
            unfold rdL
            rw [if_neg q]
            show o' ++ (tw 1 (P ++ [])).map cdO = _
            rw [w1]
          refine .inl ⟨.inr hgd, rfl, o' ++ P.map cdO, by rw [List.length_append, List.length_map]; omega, s3, .inr ⟨?_, er⟩⟩
          intro hnil
          have hv := (EnR_inv ⟨hb, s5, fun y => (stp_x ((s9 y).1) (fun w => ((s9 y).2 w).2) (fun _ => rfl))⟩).2.2.1
          have hv' : dpt o' 0 = some (nbK (P ++ []) + 1) := hv
          have ho : o' = [] := (List.append_eq_nil_iff.mp hnil).1
          have hP : P = [] := by
            have := (List.append_eq_nil_iff.mp hnil).2
            exact List.map_eq_nil_iff.mp this
          rw [ho, hP] at hv'
          cases hv'
        · rw [if_neg gd]
          exact .inr ⟨fun y => y.elim q (fun w => gd ⟨w.1, rfl, w.2.1⟩), rfl⟩
    · have hb := s1.2.2.1
      rw [v0, if_pos rfl]
      have fv := M_fault40 (f := 0) hl rfl s1 (.inr rfl)
      rw [fv, if_neg (fun y => absurd y.2.1 (by decide))]
      refine ⟨p3, b, S, ⟨hb, s4, s5⟩, by omega, h7, f7, .inr ⟨fun y => ?_, rfl⟩⟩
      rcases y with y | y
      · exact q y
      · have := s6 (by have := y.2.1; have := y.1; omega)
        rw [y.2.2.1, y.2.2.2] at this
        rcases this with w | w
        · cases w
        · omega
end RU

/-! what would be: the trial floor beside the state -/
def CTR (σ : ST) (F : FL) (R : List Int64) (μ : Mm) : Prop := OK σ ∧ RgF F ∧ CS σ μ ∧ FlC 8 F μ ∧ ToC R μ
def MTR (σ : ST) (F : FL) (R : List Int64) (μ : Mm) : Prop := OK σ ∧ RgF F ∧ MS σ μ ∧ FlM 53 F μ ∧ ToM R μ
section TR
variable {σ : ST} {F : FL} {R : List Int64} {μ : Mm}
theorem CTR_become (ok : OK σ) (hc : CS σ μ) (tc : ToC R μ) : p_X1_become 8 1 μ ∧ CTR σ (s_F σ) R (e_X1_become 8 1 μ) := by
  have f := fr_X1_become 8 1 μ
  obtain ⟨p1, p2⟩ := C_become hc.F
  exact ⟨p1, ok, ok.g, hc.fr f (by decide), p2, tc.fr f (by decide)⟩
theorem CTR_pass (h : CTR σ F R μ) : p_X1_pass 8 15 μ ∧ v_X1_pass 8 15 μ = wlkA (s_r σ) F ∧ CTR σ (pasA (s_r σ) F) R (e_X1_pass 8 15 μ) := by
  obtain ⟨ok, g, hc, hF, tc⟩ := h
  have f := fr_X1_pass 8 15 μ
  obtain ⟨p1, p2, p3⟩ := C_pass hF hc.r g (.inr rfl) (.inl rfl)
  exact ⟨p1, p2, ok, RgF_pas g, hc.fr f (by decide), p3, tc.fr f (by decide)⟩
theorem CTR_go (h : CTR σ F R μ) (x : Int32) : p_X1_go 8 x 15 μ ∧ v_X1_go 8 x 15 μ = wkA (s_r σ) x.toNatClampNeg F ∧ CTR σ (goA (s_r σ) x.toNatClampNeg F) R (e_X1_go 8 x 15 μ) := by
  obtain ⟨ok, g, hc, hF, tc⟩ := h
  have f := fr_X1_go 8 x 15 μ
  obtain ⟨p1, p2, p3⟩ := C_go hF hc.r g (.inr rfl) (.inl rfl) x
  exact ⟨p1, p2, ok, RgF_go g _, hc.fr f (by decide), p3, tc.fr f (by decide)⟩
theorem CTR_noon (h : CTR σ F R μ) : p_X1_goTillNoon 8 15 μ ∧ v_X1_goTillNoon 8 15 μ = momA (goA (s_r σ) (f_z F - f_t F).toNatClampNeg F) ∧ CTR σ (goA (s_r σ) (f_z F - f_t F).toNatClampNeg F) R (e_X1_goTillNoon 8 15 μ) := by
  obtain ⟨ok, g, hc, hF, tc⟩ := h
  have f := fr_X1_goTillNoon 8 15 μ
  obtain ⟨p1, p2, p3⟩ := C_goTillNoon hF hc.r g (.inr rfl) (.inl rfl)
  exact ⟨p1, p2, ok, RgF_go g _, hc.fr f (by decide), p3, tc.fr f (by decide)⟩
theorem CTR_begin (h : CTR σ F R μ) : CTR σ F [] (e_X10_begin μ) := by
  obtain ⟨ok, g, hc, hF, tc⟩ := h
  have f := fr_X10_begin μ
  exact ⟨ok, g, hc.fr f (by decide), hF.fr f (by decide), ToC_0 μ⟩
theorem CTR_add (h : CTR σ F R μ) (hl : R.length < 16) (x : Int64) : p_X10_add x μ ∧ CTR σ F (R ++ [x]) (e_X10_add x μ) := by
  obtain ⟨ok, g, hc, hF, tc⟩ := h
  have f := fr_X10_add x μ
  obtain ⟨p1, p2⟩ := C_add tc hl x
  exact ⟨p1, ok, g, hc.fr f (by decide), hF.fr f (by decide), p2⟩
theorem CTR_mom (h : CTR σ F R μ) : p_X1_moment 8 μ ∧ v_X1_moment 8 μ = momA F := C_moment h.2.2.2.1
theorem MTR_copies (ok : OK σ) (hm : MS σ μ) (tm : ToM R μ) : p_X12_copies μ ∧ MTR σ (s_F σ) R (e_X12_copies μ) := by
  have f := fs_X12_copies μ
  obtain ⟨p1, p2⟩ := M_copies hm.F
  exact ⟨p1, ok, ok.g, hm.fs f (by decide), p2, tm.fs f (by decide)⟩
theorem MTR_pass (h : MTR σ F R μ) : p_X12_minuteGoes 53 μ ∧ v_X12_minuteGoes 53 μ = wlkA (s_r σ) F ∧ MTR σ (pasA (s_r σ) F) R (e_X12_minuteGoes 53 μ) := by
  obtain ⟨ok, g, hm, hF, tm⟩ := h
  have f := fs_X12_minuteGoes 53 μ
  obtain ⟨p1, p2, p3⟩ := M_minuteGoes hF ok.rl ok.rw hm.r g (.inr rfl)
  exact ⟨p1, p2, ok, RgF_pas g, hm.fs f (by decide), p3, tm.fs f (by decide)⟩
theorem MTR_go (h : MTR σ F R μ) (x : Int32) : p_X12_goesOn 53 x μ ∧ v_X12_goesOn 53 x μ = wkA (s_r σ) x.toNatClampNeg F ∧ MTR σ (goA (s_r σ) x.toNatClampNeg F) R (e_X12_goesOn 53 x μ) := by
  obtain ⟨ok, g, hm, hF, tm⟩ := h
  have f := fs_X12_goesOn 53 x μ
  obtain ⟨p1, p2, p3⟩ := M_goesOn hF ok.rl ok.rw hm.r g (.inr rfl) x
  exact ⟨p1, p2, ok, RgF_go g _, hm.fs f (by decide), p3, tm.fs f (by decide)⟩
theorem MTR_noon (ok : OK σ) (hm : MS σ μ) (tm : ToM R μ) : p_X12_goesToNoon μ ∧ MTR σ (goA (s_r σ) (f_z (s_F σ) - f_t (s_F σ)).toNatClampNeg (s_F σ)) R (e_X12_goesToNoon μ) := by
  have f := fs_X12_goesToNoon μ
  obtain ⟨p1, p2⟩ := M_goesToNoon hm.F ok.rl ok.rw hm.r ok.g
  exact ⟨p1, ok, RgF_go ok.g _, hm.fs f (by decide), p2, tm.fs f (by decide)⟩
theorem MTR_begin (h : MTR σ F R μ) : MTR σ F [] (upI μ 49 1 0) := by
  obtain ⟨ok, g, hm, hF, tm⟩ := h
  have f : Fs [1001] μ (upI μ 49 1 0) := Fs.upF Fs.rfl (by simp)
  exact ⟨ok, g, hm.fs f (by decide), hF.fs f (by decide), ToM_0 μ⟩
theorem MTR_add (h : MTR σ F R μ) (hl : R.length < 16) (x : Int64) : p_X12_enters x μ ∧ MTR σ F (R ++ [x]) (e_X12_enters x μ) := by
  obtain ⟨ok, g, hm, hF, tm⟩ := h
  have f := fs_X12_enters x μ
  obtain ⟨p1, p2⟩ := M_enters tm hl x
  exact ⟨p1, ok, g, hm.fs f (by decide), hF.fs f (by decide), p2⟩
theorem MTR_mom (h : MTR σ F R μ) : p_X12_moment 53 μ ∧ v_X12_moment 53 μ = momA F := M_moment h.2.2.2.1
end TR
/-! the first one that does -/
def ff (P : Nat → Bool) : Nat → Nat → Option Nat
  | _, 0 => none
  | i, k + 1 => if P i then some i else ff P (i + 1) k
def fres (o : Option Nat) : Int32 := match o with
  | some n => nI n
  | none => -2
def ftold (o : Option Nat) (f : Nat → List Int64) (R : List Int64) : List Int64 := match o with
  | some n => f n
  | none => R
theorem ff_y {P : Nat → Bool} {i k : Nat} (h : P i = true) : ff P i (k + 1) = some i := by
  show (if P i then some i else _) = _
  rw [if_pos h]
theorem ff_n {P : Nat → Bool} {i k : Nat} (h : P i = false) : ff P i (k + 1) = ff P (i + 1) k := by
  show (if P i then some i else _) = _
  rw [if_neg (by rw [h]; decide)]
def rows (g : Nat → Int64) : Nat → List Int64
  | 0 => []
  | n + 1 => rows g n ++ [g n]
theorem rows_len (g : Nat → Int64) : ∀ n, (rows g n).length = n
  | 0 => rfl
  | n + 1 => by simp [rows, rows_len g n]
theorem gt60 {i : Nat} (h : i < 2 ^ 31) : ((60 : Int32) < nI i) ↔ 60 < i := nI_ltI (a := 60) (by omega) h
theorem gt9 {i : Nat} (h : i < 2 ^ 31) : ((9 : Int32) < nI i) ↔ 9 < i := nI_ltI (a := 9) (by omega) h
section TQ
variable {σ : ST} {R : List Int64} {μ : Mm}
def restP (σ : ST) (i : Nat) : Bool := decide (wlkA (s_r σ) (goA (s_r σ) i (s_F σ)) = 0)
def restT (σ : ST) (n : Nat) : List Int64 := [(2000 + momA (goA (s_r σ) n (s_F σ))).toInt64]
theorem C_rest (ok : OK σ) (hc : CS σ μ) (tc : ToC R μ) : p_X11_rest μ ∧ v_X11_rest μ = fres (ff (restP σ) 0 61) ∧ ToC (ftold (ff (restP σ) 0 61) (restT σ) R) (e_X11_rest μ) := by
  obtain ⟨p1, h1⟩ := CTR_become ok hc tc
  unfold p_X11_rest v_X11_rest e_X11_rest
  simp only [forall_eq]
  generalize e_X1_become 8 1 μ = μ2 at h1 ⊢
  have key := lpI (f := fun s : Int32 × Mm => bd_X11_rest_13 s.1 s.2) (sd := fun s : Int32 × Mm => sd_X11_rest_13 s.1 s.2) (dd := fun s : Int32 × Mm => (0, s.2))
    (I := fun i s => ∃ μ', s = (nI i, μ') ∧ i ≤ 61 ∧ CTR σ (goA (s_r σ) i (s_F σ)) R μ' ∧ ff (restP σ) i (61 - i) = ff (restP σ) 0 61)
    (R := fun z => z.1 = fres (ff (restP σ) 0 61) ∧ ToC (ftold (ff (restP σ) 0 61) (restT σ) R) z.2) 61 (by omega) ?_ (s0 := (0, μ2)) ⟨μ2, rfl, Nat.zero_le _, h1, rfl⟩
  · exact ⟨⟨p1, key.1⟩, key.2⟩
  · rintro i _ hi ⟨μ', rfl, hi2, ht, hff⟩
    dsimp only
    unfold sd_X11_rest_13 bd_X11_rest_13
    simp only [gt60 (show i < 2 ^ 31 by omega), nI_1, forall_eq]
    rcases Nat.lt_or_ge 60 i with z | z
    · have : i = 61 := by omega
      subst this
      rw [if_pos (by omega), ← hff]
      exact ⟨fun y => absurd z y, .inr ⟨_, rfl, rfl, ht.2.2.2.2⟩⟩
    · obtain ⟨q1, q2⟩ := CTR_mom ht
      obtain ⟨q3, q4, q5⟩ := CTR_pass ht
      rw [if_neg (by omega), q2, q4]
      generalize e_X1_pass 8 15 μ' = μ4 at q5 ⊢
      obtain ⟨q7, q8⟩ := CTR_add (CTR_begin q5) (by simp) (2000 + momA (goA (s_r σ) i (s_F σ))).toInt64
      refine ⟨fun _ => ⟨q1, q3, fun _ => q7⟩, ?_⟩
      rw [show 61 - i = (60 - i) + 1 by omega] at hff
      by_cases q : wlkA (s_r σ) (goA (s_r σ) i (s_F σ)) = 0
      · rw [if_pos q]
        rw [ff_y (P := restP σ) (decide_eq_true q)] at hff
        rw [← hff]
        exact .inr ⟨_, rfl, rfl, q8.2.2.2.2⟩
      · rw [if_neg q]
        rw [ff_n (P := restP σ) (decide_eq_false q)] at hff
        exact .inl ⟨_, rfl, by omega, μ4, rfl, by omega, q5, by rw [show 61 - (i + 1) = 60 - i by omega]; exact hff⟩
theorem M_rest (ok : OK σ) (hm : MS σ μ) (tm : ToM R μ) : p_X12_rest μ ∧ v_X12_rest μ = fres (ff (restP σ) 0 61) ∧ ToM (ftold (ff (restP σ) 0 61) (restT σ) R) (e_X12_rest μ) := by
  obtain ⟨p1, h1⟩ := MTR_copies ok (hm.th 0) (tm.th 0)
  unfold p_X12_rest v_X12_rest e_X12_rest
  simp only [forall_eq]
  generalize e_X12_copies (upI μ 49 0 0) = μ2 at h1 ⊢
  have key := lpI (f := fun s : Int32 × Mm => bd_X12_rest_11 s.1 s.2) (sd := fun s : Int32 × Mm => sd_X12_rest_11 s.1 s.2) (dd := fun s : Int32 × Mm => (0, s.2))
    (I := fun i s => ∃ μ', s = (nI i, μ') ∧ i ≤ 61 ∧ MTR σ (goA (s_r σ) i (s_F σ)) R μ' ∧ ff (restP σ) i (61 - i) = ff (restP σ) 0 61)
    (R := fun z => z.1 = fres (ff (restP σ) 0 61) ∧ ToM (ftold (ff (restP σ) 0 61) (restT σ) R) z.2) 61 (by omega) ?_ (s0 := (0, μ2)) ⟨μ2, rfl, Nat.zero_le _, h1, rfl⟩
  · exact ⟨⟨p1, key.1⟩, key.2⟩
  · rintro i _ hi ⟨μ', rfl, hi2, ht, hff⟩
    dsimp only
    unfold sd_X12_rest_11 bd_X12_rest_11
    simp only [gt60 (show i < 2 ^ 31 by omega), nI_1, forall_eq]
    rcases Nat.lt_or_ge 60 i with z | z
    · have : i = 61 := by omega
      subst this
      rw [if_pos (by omega), ← hff]
      exact ⟨fun y => absurd z y, .inr ⟨_, rfl, rfl, ht.2.2.2.2⟩⟩
    · obtain ⟨q1, q2⟩ := MTR_mom ht
      obtain ⟨q3, q4, q5⟩ := MTR_pass ht
      rw [if_neg (by omega), q2, q4]
      generalize e_X12_minuteGoes 53 μ' = μ4 at q5 ⊢
      obtain ⟨q7, q8⟩ := MTR_add (MTR_begin q5) (by simp) (2000 + momA (goA (s_r σ) i (s_F σ))).toInt64
      refine ⟨fun _ => ⟨q1, q3, fun _ => q7⟩, ?_⟩
      rw [show 61 - i = (60 - i) + 1 by omega] at hff
      by_cases q : wlkA (s_r σ) (goA (s_r σ) i (s_F σ)) = 0
      · rw [if_pos q]
        rw [ff_y (P := restP σ) (decide_eq_true q)] at hff
        rw [← hff]
        exact .inr ⟨_, rfl, rfl, q8.2.2.2.2⟩
      · rw [if_neg q]
        rw [ff_n (P := restP σ) (decide_eq_false q)] at hff
        exact .inl ⟨_, rfl, by omega, μ4, rfl, by omega, q5, by rw [show 61 - (i + 1) = 60 - i by omega]; exact hff⟩
/-- two halves make a call -/
theorem Two {pc pm : Prop} {vc vm v : Int32} {R' : List Int64} {μ1 μ2 : Mm} {LC LM : List Nat} (h : Sim σ R μ) (fC : Fr LC μ μ1) (fM : Fs LM μ1 μ2) (a : pc ∧ vc = v ∧ ToC R' μ1) (b : pm ∧ vm = v ∧ ToM R' μ2) (dC : ∀ x, x ∈ LC → x ∈ scrC) (dM : ∀ x, x ∈ LM → x ∈ scrM) : Call pc pm vc vm μ2 :=
  ⟨a.1, b.1, a.2.1.trans b.2.1.symm, Qry h fC fM a.2.2 b.2.2 dC dM⟩
theorem Sim.m1 {μ1 : Mm} {LC : List Nat} (h : Sim σ R μ) (fC : Fr LC μ μ1) (dC : ∀ x, x ∈ LC → x ∈ scrC) : MS σ μ1 ∧ ToM R μ1 := by
  have hc : ∀ x, x ∈ LC → x < 49 := fun x hx => (by decide : ∀ x, x ∈ scrC → x < 49) x (dC x hx)
  exact ⟨h.2.2.1.frC fC hc, h.2.2.2.2.frC fC hc⟩
theorem call_rest (h : Sim σ R μ) : Call (p_X11_rest μ) (p_X12_rest (e_X11_rest μ)) (v_X11_rest μ) (v_X12_rest (e_X11_rest μ)) (e_X12_rest (e_X11_rest μ)) := by
  have fC := fr_X11_rest μ
  have m := h.m1 fC (by decide)
  exact Two h fC (fs_X12_rest _) (C_rest h.1 h.2.1 h.2.2.2.1) (M_rest h.1 m.1 m.2) (by decide) (by decide)
def swP (σ : ST) (i : Nat) : Bool := decide (¬ dirA (momA (goA (s_r σ) i (s_F σ))) = dirA (momA (s_F σ)))
def swT (σ : ST) (n : Nat) : List Int64 := [(1 + dirA (momA (goA (s_r σ) n (s_F σ)))).toInt64]
theorem C_swings (ok : OK σ) (hc : CS σ μ) (tc : ToC R μ) : p_X11_swings μ ∧ v_X11_swings μ = fres (ff (swP σ) 1 60) ∧ ToC (ftold (ff (swP σ) 1 60) (swT σ) R) (e_X11_swings μ) := by
  obtain ⟨p1, h1⟩ := CTR_become ok hc tc
  unfold p_X11_swings v_X11_swings e_X11_swings
  simp only [forall_eq]
  generalize e_X1_become 8 1 μ = μ2 at h1 ⊢
  rw [(CTR_mom h1).2, dir_C]
  have key := lpI (f := fun s : Int32 × Int32 × Mm => bd_X11_swings_24 s.1 s.2.1 s.2.2) (sd := fun s : Int32 × Int32 × Mm => sd_X11_swings_24 s.1 s.2.1 s.2.2) (dd := fun s : Int32 × Int32 × Mm => (0, s.2.2))
    (I := fun i s => ∃ μ', s = (dirA (momA (s_F σ)), nI (i + 1), μ') ∧ i ≤ 60 ∧ CTR σ (goA (s_r σ) i (s_F σ)) R μ' ∧ ff (swP σ) (i + 1) (60 - i) = ff (swP σ) 1 60)
    (R := fun z => z.1 = fres (ff (swP σ) 1 60) ∧ ToC (ftold (ff (swP σ) 1 60) (swT σ) R) z.2) 60 (by omega) ?_ (s0 := (dirA (momA (s_F σ)), 1, μ2)) ⟨μ2, rfl, Nat.zero_le _, h1, rfl⟩
  · exact ⟨⟨p1, (CTR_mom h1).1, key.1⟩, key.2⟩
  · rintro i _ hi ⟨μ', rfl, hi2, ht, hff⟩
    dsimp only
    unfold sd_X11_swings_24 bd_X11_swings_24
    simp only [gt60 (show i + 1 < 2 ^ 31 by omega), nI_1, forall_eq]
    rcases Nat.lt_or_ge 60 (i + 1) with z | z
    · have : i = 60 := by omega
      subst this
      rw [if_pos (by omega), ← hff]
      exact ⟨fun y => absurd z y, .inr ⟨_, rfl, rfl, ht.2.2.2.2⟩⟩
    · obtain ⟨q3, q4, q5⟩ := CTR_pass ht
      rw [if_neg (by omega)]
      generalize e_X1_pass 8 15 μ' = μ4 at q5 ⊢
      obtain ⟨q1, q2⟩ := CTR_mom q5
      rw [q2, dir_C]
      have eg : pasA (s_r σ) (goA (s_r σ) i (s_F σ)) = goA (s_r σ) (i + 1) (s_F σ) := rfl
      rw [eg] at q5 ⊢
      obtain ⟨q7, q8⟩ := CTR_add (CTR_begin q5) (by simp) (1 + dirA (momA (goA (s_r σ) (i + 1) (s_F σ)))).toInt64
      refine ⟨fun _ => ⟨q3, q1, fun _ => q7⟩, ?_⟩
      rw [show 60 - i = (59 - i) + 1 by omega] at hff
      by_cases q : dirA (momA (goA (s_r σ) (i + 1) (s_F σ))) = dirA (momA (s_F σ))
      · rw [if_pos q]
        rw [ff_n (P := swP σ) (decide_eq_false (fun y => y q))] at hff
        exact .inl ⟨_, rfl, by omega, μ4, rfl, by omega, q5, by rw [show 60 - (i + 1) = 59 - i by omega]; exact hff⟩
      · rw [if_neg q]
        rw [ff_y (P := swP σ) (decide_eq_true q)] at hff
        rw [← hff]
        exact .inr ⟨_, rfl, rfl, q8.2.2.2.2⟩
theorem M_swings (ok : OK σ) (hm : MS σ μ) (tm : ToM R μ) : p_X12_swings μ ∧ v_X12_swings μ = fres (ff (swP σ) 1 60) ∧ ToM (ftold (ff (swP σ) 1 60) (swT σ) R) (e_X12_swings μ) := by
  obtain ⟨p1, h1⟩ := MTR_copies ok (hm.th 0) (tm.th 0)
  unfold p_X12_swings v_X12_swings e_X12_swings
  simp only [forall_eq]
  generalize e_X12_copies (upI μ 49 0 0) = μ2 at h1 ⊢
  have key := lpI (f := fun s : Int32 × Mm => bd_X12_swings_11 s.1 s.2) (sd := fun s : Int32 × Mm => sd_X12_swings_11 s.1 s.2) (dd := fun s : Int32 × Mm => (0, s.2))
    (I := fun i s => ∃ μ', s = (nI (i + 1), μ') ∧ i ≤ 60 ∧ MTR σ (goA (s_r σ) i (s_F σ)) R μ' ∧ ff (swP σ) (i + 1) (60 - i) = ff (swP σ) 1 60)
    (R := fun z => z.1 = fres (ff (swP σ) 1 60) ∧ ToM (ftold (ff (swP σ) 1 60) (swT σ) R) z.2) 60 (by omega) ?_ (s0 := (1, μ2)) ⟨μ2, rfl, Nat.zero_le _, h1, rfl⟩
  · exact ⟨⟨p1, key.1⟩, key.2⟩
  · rintro i _ hi ⟨μ', rfl, hi2, ht, hff⟩
    dsimp only
    unfold sd_X12_swings_11 bd_X12_swings_11
    simp only [gt60 (show i + 1 < 2 ^ 31 by omega), nI_1, forall_eq]
    rcases Nat.lt_or_ge 60 (i + 1) with z | z
    · have : i = 60 := by omega
      subst this
      rw [if_pos (by omega), ← hff]
      exact ⟨fun y => absurd z y, .inr ⟨_, rfl, rfl, ht.2.2.2.2⟩⟩
    · obtain ⟨q3, q4, q5⟩ := MTR_pass ht
      rw [if_neg (by omega)]
      generalize e_X12_minuteGoes 53 μ' = μ4 at q5 ⊢
      have eg : pasA (s_r σ) (goA (s_r σ) i (s_F σ)) = goA (s_r σ) (i + 1) (s_F σ) := rfl
      rw [eg] at q5
      obtain ⟨q1, q2⟩ := MTR_mom q5
      obtain ⟨q1', q2'⟩ := M_moment q5.2.2.1.F
      have q6 := MTR_begin q5
      obtain ⟨q1'', q2''⟩ := MTR_mom q6
      rw [q2, q2', q2'', dir_M, dir_M]
      obtain ⟨q7, q8⟩ := MTR_add q6 (by simp) (1 + dirA (momA (goA (s_r σ) (i + 1) (s_F σ)))).toInt64
      refine ⟨fun _ => ⟨q3, q1, q1', fun _ => ⟨q1'', q7⟩⟩, ?_⟩
      rw [show 60 - i = (59 - i) + 1 by omega] at hff
      by_cases q : dirA (momA (goA (s_r σ) (i + 1) (s_F σ))) = dirA (momA (s_F σ))
      · rw [if_pos q]
        rw [ff_n (P := swP σ) (decide_eq_false (fun y => y q))] at hff
        exact .inl ⟨_, rfl, by omega, μ4, rfl, by omega, q5, by rw [show 60 - (i + 1) = 59 - i by omega]; exact hff⟩
      · rw [if_neg q]
        rw [ff_y (P := swP σ) (decide_eq_true q)] at hff
        rw [← hff]
        exact .inr ⟨_, rfl, rfl, q8.2.2.2.2⟩
theorem call_swings (h : Sim σ R μ) : Call (p_X11_swings μ) (p_X12_swings (e_X11_swings μ)) (v_X11_swings μ) (v_X12_swings (e_X11_swings μ)) (e_X12_swings (e_X11_swings μ)) := by
  have fC := fr_X11_swings μ
  have m := h.m1 fC (by decide)
  exact Two h fC (fs_X12_swings _) (C_swings h.1 h.2.1 h.2.2.2.1) (M_swings h.1 m.1 m.2) (by decide) (by decide)
/-! level -/
def levT (σ : ST) : Nat → Int32 × List Int64
  | 0 => (0, [])
  | i + 1 => if momA (goA (s_r σ) i (s_F σ)) = 0 then ((levT σ i).1 + 1, if (levT σ i).1 = 0 then (levT σ i).2 ++ [(nI i).toInt64] else (levT σ i).2) else levT σ i
theorem levT_ok (σ : ST) : ∀ i, i < 1000 → ∃ k, k ≤ i ∧ (levT σ i).1 = nI k ∧ (k = 0 → (levT σ i).2 = []) ∧ (levT σ i).2.length ≤ 1
  | 0, _ => ⟨0, Nat.le_refl _, rfl, fun _ => rfl, by simp [levT]⟩
  | i + 1, hi => by
    obtain ⟨k, k1, k2, k3, k4⟩ := levT_ok σ i (by omega)
    unfold levT
    by_cases q : momA (goA (s_r σ) i (s_F σ)) = 0
    · rw [if_pos q, k2, nI_1]
      refine ⟨k + 1, by omega, rfl, fun z => absurd z (by omega), ?_⟩
      by_cases q2 : k = 0
      · subst q2
        rw [k3 rfl]
        dsimp only
        rw [if_pos nI_0]; simp
      · dsimp only
        rw [if_neg (nI_ne0 (by omega) (by omega))]; exact k4
    · rw [if_neg q]
      exact ⟨k, by omega, k2, k3, k4⟩
theorem C_level (ok : OK σ) (hc : CS σ μ) (tc : ToC R μ) : p_X11_level μ ∧ v_X11_level μ = (levT σ 61).1 ∧ ToC (levT σ 61).2 (e_X11_level μ) := by
  obtain ⟨p1, h1⟩ := CTR_become ok hc tc
  unfold p_X11_level v_X11_level e_X11_level
  simp only [forall_eq]
  generalize e_X1_become 8 1 μ = μ2 at h1 ⊢
  have h2 := CTR_begin h1
  generalize e_X10_begin μ2 = μ3 at h2 ⊢
  have key := lpI (f := fun s : Int32 × Int32 × Mm => bd_X11_level_22 s.1 s.2.1 s.2.2) (sd := fun s : Int32 × Int32 × Mm => sd_X11_level_22 s.1 s.2.1 s.2.2) (dd := fun s : Int32 × Int32 × Mm => (0, s.2.2))
    (I := fun i s => ∃ μ', s = ((levT σ i).1, nI i, μ') ∧ i ≤ 61 ∧ CTR σ (goA (s_r σ) i (s_F σ)) (levT σ i).2 μ')
    (R := fun z => z.1 = (levT σ 61).1 ∧ ToC (levT σ 61).2 z.2) 61 (by omega) ?_ (s0 := (0, 0, μ3)) ⟨μ3, rfl, Nat.zero_le _, h2⟩
  · exact ⟨⟨p1, key.1⟩, key.2⟩
  · rintro i _ hi ⟨μ', rfl, hi2, ht⟩
    dsimp only
    unfold sd_X11_level_22 bd_X11_level_22
    simp only [gt60 (show i < 2 ^ 31 by omega), nI_1, forall_eq]
    rcases Nat.lt_or_ge 60 i with z | z
    · have : i = 61 := by omega
      subst this
      rw [if_pos (show 60 < 61 by omega)]
      exact ⟨fun y => absurd z y, .inr ⟨_, rfl, rfl, ht.2.2.2.2⟩⟩
    · obtain ⟨q1, q2⟩ := CTR_mom ht
      obtain ⟨k, k1, k2, k3, k4⟩ := levT_ok σ i (by omega)
      rw [if_neg (show ¬ 60 < i by omega), q2]
      obtain ⟨a1, a2⟩ := CTR_add ht (by omega) (nI i).toInt64
      have e1 : levT σ (i + 1) = if momA (goA (s_r σ) i (s_F σ)) = 0 then ((levT σ i).1 + 1, if (levT σ i).1 = 0 then (levT σ i).2 ++ [(nI i).toInt64] else (levT σ i).2) else levT σ i := rfl
      have e9 : CTR σ (goA (s_r σ) i (s_F σ)) (levT σ (i + 1)).2 (if momA (goA (s_r σ) i (s_F σ)) = 0 then (if (levT σ i).1 = 0 then e_X10_add (nI i).toInt64 μ' else μ') else μ') := by
        rw [e1]
        by_cases w : momA (goA (s_r σ) i (s_F σ)) = 0
        · rw [if_pos w, if_pos w]
          by_cases w2 : (levT σ i).1 = 0
          · rw [if_pos w2]; dsimp only; rw [if_pos w2]; exact a2
          · rw [if_neg w2]; dsimp only; rw [if_neg w2]; exact ht
        · rw [if_neg w, if_neg w]; exact ht
      generalize (if momA (goA (s_r σ) i (s_F σ)) = 0 then (if (levT σ i).1 = 0 then e_X10_add (nI i).toInt64 μ' else μ') else μ') = μ9 at e9 ⊢
      obtain ⟨q3, q4, q5⟩ := CTR_pass e9
      refine ⟨fun _ => ⟨q1, fun _ _ => a1, q3⟩, .inl ⟨_, rfl, by omega, _, ?_, by omega, q5⟩⟩
      rw [e1]
      by_cases w : momA (goA (s_r σ) i (s_F σ)) = 0
      · rw [if_pos w, if_pos w]
      · rw [if_neg w, if_neg w]
theorem M_level (ok : OK σ) (hm : MS σ μ) (tm : ToM R μ) : p_X12_level μ ∧ v_X12_level μ = (levT σ 61).1 ∧ ToM (levT σ 61).2 (e_X12_level μ) := by
  obtain ⟨p1, h1⟩ := MTR_copies ok (hm.th 0) (tm.th 0)
  unfold p_X12_level v_X12_level e_X12_level
  simp only [forall_eq]
  generalize e_X12_copies (upI μ 49 0 0) = μ2 at h1 ⊢
  have h2 := MTR_begin h1
  generalize upI μ2 49 1 0 = μ3 at h2 ⊢
  have key := lpI (f := fun s : Int32 × Int32 × Mm => bd_X12_level_18 s.1 s.2.1 s.2.2) (sd := fun s : Int32 × Int32 × Mm => sd_X12_level_18 s.1 s.2.1 s.2.2) (dd := fun s : Int32 × Int32 × Mm => (0, s.2.2))
    (I := fun i s => ∃ μ', s = ((levT σ i).1, nI i, μ') ∧ i ≤ 61 ∧ MTR σ (goA (s_r σ) i (s_F σ)) (levT σ i).2 μ')
    (R := fun z => z.1 = (levT σ 61).1 ∧ ToM (levT σ 61).2 z.2) 61 (by omega) ?_ (s0 := (0, 0, μ3)) ⟨μ3, rfl, Nat.zero_le _, h2⟩
  · exact ⟨⟨p1, key.1⟩, key.2⟩
  · rintro i _ hi ⟨μ', rfl, hi2, ht⟩
    dsimp only
    unfold sd_X12_level_18 bd_X12_level_18
    simp only [gt60 (show i < 2 ^ 31 by omega), nI_1, forall_eq, one0, flag_0]
    rcases Nat.lt_or_ge 60 i with z | z
    · have : i = 61 := by omega
      subst this
      rw [if_pos (show 60 < 61 by omega)]
      exact ⟨fun y => absurd z y, .inr ⟨_, rfl, rfl, ht.2.2.2.2⟩⟩
    · obtain ⟨q1, q2⟩ := MTR_mom ht
      obtain ⟨k, k1, k2, k3, k4⟩ := levT_ok σ i (by omega)
      rw [if_neg (show ¬ 60 < i by omega), q2]
      obtain ⟨a1, a2⟩ := MTR_add ht (by omega) (nI i).toInt64
      have e1 : levT σ (i + 1) = if momA (goA (s_r σ) i (s_F σ)) = 0 then ((levT σ i).1 + 1, if (levT σ i).1 = 0 then (levT σ i).2 ++ [(nI i).toInt64] else (levT σ i).2) else levT σ i := rfl
      have e9 : MTR σ (goA (s_r σ) i (s_F σ)) (levT σ (i + 1)).2 (if ¬ momA (goA (s_r σ) i (s_F σ)) = 0 then μ' else (if (levT σ i).1 = 0 then e_X12_enters (nI i).toInt64 μ' else μ')) := by
        rw [e1]
        by_cases w : momA (goA (s_r σ) i (s_F σ)) = 0
        · rw [if_pos w, if_neg (show ¬ ¬ momA (goA (s_r σ) i (s_F σ)) = 0 from fun y => y w)]
          by_cases w2 : (levT σ i).1 = 0
          · rw [if_pos w2]; dsimp only; rw [if_pos w2]; exact a2
          · rw [if_neg w2]; dsimp only; rw [if_neg w2]; exact ht
        · rw [if_neg w, if_pos w]; exact ht
      generalize (if ¬ momA (goA (s_r σ) i (s_F σ)) = 0 then μ' else (if (levT σ i).1 = 0 then e_X12_enters (nI i).toInt64 μ' else μ')) = μ9 at e9 ⊢
      obtain ⟨q3, q4, q5⟩ := MTR_pass e9
      refine ⟨fun _ => ⟨q1, fun _ _ => a1, q3⟩, .inl ⟨_, rfl, by omega, _, ?_, by omega, q5⟩⟩
      rw [e1]
      by_cases w : momA (goA (s_r σ) i (s_F σ)) = 0
      · rw [if_pos w, if_pos w]
      · rw [if_neg w, if_neg w, Int32.add_zero]
theorem call_level (h : Sim σ R μ) : Call (p_X11_level μ) (p_X12_level (e_X11_level μ)) (v_X11_level μ) (v_X12_level (e_X11_level μ)) (e_X12_level (e_X11_level μ)) := by
  have fC := fr_X11_level μ
  have m := h.m1 fC (by decide)
  exact Two h fC (fs_X12_level _) (C_level h.1 h.2.1 h.2.2.2.1) (M_level h.1 m.1 m.2) (by decide) (by decide)
end TQ

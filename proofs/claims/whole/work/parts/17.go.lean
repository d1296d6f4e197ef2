/-! minutes in a row; copies of the floor -/
def goA (r : List Nat) : Nat → FL → FL
  | 0, F => F
  | n + 1, F => pasA r (goA r n F)
def wkA (r : List Nat) (n : Nat) (F : FL) : Int32 := sm (fun i => wlkA r (goA r i F)) n
theorem RgF_go {r : List Nat} {F : FL} (hg : RgF F) : ∀ n, RgF (goA r n F)
  | 0 => hg
  | n + 1 => RgF_pas (RgF_go hg n)
theorem go_n {r : List Nat} {F : FL} : ∀ n, f_n (goA r n F) = f_n F
  | 0 => rfl
  | n + 1 => go_n n
theorem cl_t (x : Int32) : x.toNatClampNeg = x.toInt.toNat := rfl
theorem cl_lt (x : Int32) : x.toNatClampNeg < 2 ^ 31 := by
  rw [cl_t]
  have := Int32.toInt_lt x
  omega
theorem cl_le {x : Int32} {i : Nat} (hi : i < 2 ^ 31) : x ≤ nI i ↔ x.toNatClampNeg ≤ i := by
  rw [fa_le, nI_toInt hi, cl_t]
  omega
theorem cl_max (x : Int32) : (if 0 < x then x else 0).toNatClampNeg = x.toNatClampNeg := by
  by_cases h : 0 < x
  · rw [if_pos h]
  · rw [if_neg h, cc0, cl_t]
    rw [fa_lt, t0] at h
    omega
section GO
variable {b c q : Nat} {F : FL} {r : List Nat} {μ : Mm}
theorem C_go (h : FlC b F μ) (hr : RuC c r μ) (hg : RgF F) (hb : b = 1 ∨ b = 8) (hc : c = 15 ∨ c = 20) (x : Int32) : p_X1_go b x c μ ∧ v_X1_go b x c μ = wkA r x.toNatClampNeg F ∧ FlC b (goA r x.toNatClampNeg F) (e_X1_go b x c μ) := by
  have hx := cl_lt x
  have key := lpI (f := fun s : Int32 × Int32 × Int32 × Mm => bd_X1_go_5 b c s.1 s.2.1 s.2.2.1 s.2.2.2) (sd := fun s : Int32 × Int32 × Int32 × Mm => sd_X1_go_5 b c s.1 s.2.1 s.2.2.1 s.2.2.2) (dd := fun s : Int32 × Int32 × Int32 × Mm => (0, s.2.2.2))
    (I := fun i s => ∃ μ', s = (x, wkA r i F, nI i, μ') ∧ i ≤ x.toNatClampNeg ∧ FlC b (goA r i F) μ' ∧ RuC c r μ')
    (R := fun z => z.1 = wkA r x.toNatClampNeg F ∧ FlC b (goA r x.toNatClampNeg F) z.2) x.toNatClampNeg (by omega) ?_ (s0 := (x, 0, 0, μ)) ⟨μ, rfl, Nat.zero_le _, h, hr⟩
  · exact key
  · rintro i _ hi ⟨μ', rfl, hi2, hf, hr'⟩
    dsimp only
    unfold sd_X1_go_5 bd_X1_go_5
    rw [nI_1]
    simp only [cl_le (show i < 2 ^ 31 by omega)]
    obtain ⟨p1, p2, p3⟩ := C_pass hf hr' (RgF_go hg i) hb hc
    rcases Nat.lt_or_ge i x.toNatClampNeg with z | z
    · rw [if_neg (by omega), p2]
      exact ⟨fun _ => p1, .inl ⟨_, rfl, z, _, rfl, by omega, p3, hr'.fr (fr_X1_pass b c μ') (by simp; omega)⟩⟩
    · have e : i = x.toNatClampNeg := by omega
      subst e
      rw [if_pos (Nat.le_refl _)]
      exact ⟨fun y => absurd (Nat.le_refl _) y, .inr ⟨_, rfl, rfl, hf⟩⟩
theorem C_goTillNoon (h : FlC b F μ) (hr : RuC c r μ) (hg : RgF F) (hb : b = 1 ∨ b = 8) (hc : c = 15 ∨ c = 20) : p_X1_goTillNoon b c μ ∧ v_X1_goTillNoon b c μ = momA (goA r (f_z F - f_t F).toNatClampNeg F) ∧ FlC b (goA r (f_z F - f_t F).toNatClampNeg F) (e_X1_goTillNoon b c μ) := by
  have hx := cl_lt (f_z F - f_t F)
  have key := lpI (f := fun s : Int32 × Int32 × Mm => bd_X1_goTillNoon_12 b c s.1 s.2.1 s.2.2) (sd := fun s : Int32 × Int32 × Mm => sd_X1_goTillNoon_12 b c s.1 s.2.1 s.2.2) (dd := fun s : Int32 × Int32 × Mm => s.2.2)
    (I := fun i s => ∃ μ', s = (f_z F - f_t F, nI i, μ') ∧ i ≤ (f_z F - f_t F).toNatClampNeg ∧ FlC b (goA r i F) μ' ∧ RuC c r μ')
    (R := fun z => FlC b (goA r (f_z F - f_t F).toNatClampNeg F) z) (f_z F - f_t F).toNatClampNeg (by omega) ?_ (s0 := (f_z F - f_t F, 0, μ)) ⟨μ, rfl, Nat.zero_le _, h, hr⟩
  · obtain ⟨k1, k2⟩ := key
    unfold p_X1_goTillNoon v_X1_goTillNoon e_X1_goTillNoon
    rw [h.z, h.t]
    generalize whl _ _ FU _ = z at k2 ⊢
    exact ⟨⟨k1, fun _ e => e ▸ (C_moment k2).1⟩, (C_moment k2).2, k2⟩
  · rintro i _ hi ⟨μ', rfl, hi2, hf, hr'⟩
    dsimp only
    unfold sd_X1_goTillNoon_12 bd_X1_goTillNoon_12
    rw [nI_1]
    simp only [cl_le (show i < 2 ^ 31 by omega)]
    obtain ⟨p1, p2, p3⟩ := C_pass hf hr' (RgF_go hg i) hb hc
    rcases Nat.lt_or_ge i (f_z F - f_t F).toNatClampNeg with z | z
    · rw [if_neg (by omega)]
      exact ⟨fun _ => p1, .inl ⟨_, rfl, z, _, rfl, by omega, p3, hr'.fr (fr_X1_pass b c μ') (by simp; omega)⟩⟩
    · have e : i = (f_z F - f_t F).toNatClampNeg := by omega
      subst e
      rw [if_pos (Nat.le_refl _)]
      exact ⟨fun y => absurd (Nat.le_refl _) y, .inr ⟨_, rfl, hf⟩⟩
theorem M_goesOn (h : FlM q F μ) (hl : r.length ≤ 40) (hw : wfd r 0) (hr : RuM r μ) (hg : RgF F) (hq : q = 52 ∨ q = 53) (x : Int32) : p_X12_goesOn q x μ ∧ v_X12_goesOn q x μ = wkA r x.toNatClampNeg F ∧ FlM q (goA r x.toNatClampNeg F) (e_X12_goesOn q x μ) := by
  have hx := cl_lt x
  have key := lpI (f := fun s : Int32 × Int32 × Int32 × Mm => bd_X12_goesOn_5 q s.1 s.2.1 s.2.2.1 s.2.2.2) (sd := fun s : Int32 × Int32 × Int32 × Mm => sd_X12_goesOn_5 q s.1 s.2.1 s.2.2.1 s.2.2.2) (dd := fun s : Int32 × Int32 × Int32 × Mm => (0, s.2.2.2))
    (I := fun i s => ∃ μ', s = (x, wkA r i F, nI i, μ') ∧ i ≤ x.toNatClampNeg ∧ FlM q (goA r i F) μ' ∧ RuM r μ')
    (R := fun z => z.1 = wkA r x.toNatClampNeg F ∧ FlM q (goA r x.toNatClampNeg F) z.2) x.toNatClampNeg (by omega) ?_ (s0 := (x, 0, 0, μ)) ⟨μ, rfl, Nat.zero_le _, h, hr⟩
  · exact key
  · rintro i _ hi ⟨μ', rfl, hi2, hf, hr'⟩
    dsimp only
    unfold sd_X12_goesOn_5 bd_X12_goesOn_5
    rw [nI_1]
    simp only [cl_le (show i < 2 ^ 31 by omega)]
    obtain ⟨p1, p2, p3⟩ := M_minuteGoes hf hl hw hr' (RgF_go hg i) hq
    rcases Nat.lt_or_ge i x.toNatClampNeg with z | z
    · rw [if_neg (by omega), p2]
      exact ⟨fun _ => p1, .inl ⟨_, rfl, z, _, rfl, by omega, p3, hr'.fs (fs_X12_minuteGoes q μ') (by simp; omega)⟩⟩
    · have e : i = x.toNatClampNeg := by omega
      subst e
      rw [if_pos (Nat.le_refl _)]
      exact ⟨fun y => absurd (Nat.le_refl _) y, .inr ⟨_, rfl, rfl, hf⟩⟩
theorem M_copies (h : FlM 52 F μ) : p_X12_copies μ ∧ FlM 53 F (e_X12_copies μ) := by
  have key := lpI (f := fun s : Int32 × Mm => bd_X12_copies_2 s.1 s.2) (sd := fun s : Int32 × Mm => sd_X12_copies_2 s.1 s.2) (dd := fun s : Int32 × Mm => s.2)
    (I := fun i s => ∃ μ', s = (nI i, μ') ∧ i ≤ 24 ∧ Fr [53] μ μ' ∧ ∀ j, j < i → μ'.1 53 j = μ.1 52 j)
    (R := fun z => Fr [53] μ z ∧ ∀ j, j < 24 → z.1 53 j = μ.1 52 j) 24 (by omega) ?_ (s0 := (0, μ)) ⟨μ, rfl, Nat.zero_le _, Fr.rfl, fun j hj => absurd hj (by omega)⟩
  · obtain ⟨k1, k2, k3⟩ := key
    unfold p_X12_copies e_X12_copies
    generalize whl _ _ FU _ = z at k2 k3 ⊢
    refine ⟨k1, h.1, ?_, fun i hi => ?_, fun i hi => ?_, fun i hi => ?_, fun i hi => ?_, ?_, ?_, ?_⟩
    · rw [k2.1 49 (by simp)]; exact h.sz
    · rw [k2.1 51 (by simp)]; exact h.w hi
    · rw [k3 _ (by omega)]; exact h.h hi
    · rw [k3 _ (by omega)]; exact h.p hi
    · rw [k3 _ (by omega)]; exact h.k hi
    · rw [k3 _ (by omega)]; exact h.o
    · rw [k3 _ (by omega)]; exact h.t
    · rw [k3 _ (by omega)]; exact h.z
  · rintro i _ hi ⟨μ', rfl, hi2, hf, hc⟩
    dsimp only
    unfold sd_X12_copies_2 bd_X12_copies_2
    rw [nI_1, show (24 : Int32) = nI 24 from rfl]
    simp only [nI_leI (show 24 < 2 ^ 31 by omega) (show i < 2 ^ 31 by omega), nI_clamp (show i < 2 ^ 31 by omega)]
    rcases Nat.lt_or_ge i 24 with z | z
    · rw [if_neg (by omega)]
      refine ⟨fun _ => ⟨vp_in_nI (by omega) (by omega), vp_in_nI (by omega) (by omega)⟩, .inl ⟨_, rfl, z, _, rfl, by omega, hf.up (by simp), fun j hj => ?_⟩⟩
      rw [rI, hf.1 52 (by simp)]
      by_cases e : j = i
      · subst e; rw [if_pos ⟨rfl, rfl⟩]
      · rw [if_neg (by omega)]; exact hc j (by omega)
    · have e : i = 24 := by omega
      subst e
      rw [if_pos (by omega)]
      exact ⟨fun y => absurd (Nat.le_refl _) y, .inr ⟨_, rfl, hf, hc⟩⟩
theorem M_goesToNoon (h : FlM 52 F μ) (hl : r.length ≤ 40) (hw : wfd r 0) (hr : RuM r μ) (hg : RgF F) : p_X12_goesToNoon μ ∧ FlM 53 (goA r (f_z F - f_t F).toNatClampNeg F) (e_X12_goesToNoon μ) := by
  obtain ⟨p1, h1⟩ := M_copies h
  have hr1 := hr.fs (fs_X12_copies μ) (by simp)
  unfold p_X12_goesToNoon e_X12_goesToNoon
  generalize e_X12_copies μ = z at h1 hr1 ⊢
  obtain ⟨p2, -, h2⟩ := M_goesOn h1 hl hw hr1 hg (.inr rfl) (if 0 < (f_z F - f_t F) then (f_z F - f_t F) else 0)
  rw [cl_max] at h2
  simp only [forall_eq]
  rw [cl23, cl22, h1.z, h1.t]
  exact ⟨⟨p1, p2⟩, h2⟩
theorem C_become (h : FlC 1 F μ) : p_X1_become 8 1 μ ∧ FlC 8 F (e_X1_become 8 1 μ) := by
  have key := lpI (f := fun s : Int32 × Mm => bd_X1_become_10 8 1 s.1 s.2) (sd := fun s : Int32 × Mm => sd_X1_become_10 8 1 s.1 s.2) (dd := fun s : Int32 × Mm => s.2)
    (I := fun i s => ∃ μ', s = (nI i, μ') ∧ i ≤ 7 ∧ Fr [9, 10, 11, 12] (upI μ 8 0 (μ.1 1 0)) μ' ∧ ∀ j, j < i → μ'.1 9 j = μ.1 2 j ∧ μ'.1 10 j = μ.1 3 j ∧ μ'.1 11 j = μ.1 4 j ∧ μ'.1 12 j = μ.1 5 j)
    (R := fun z => Fr [9, 10, 11, 12] (upI μ 8 0 (μ.1 1 0)) z ∧ ∀ j, j < 7 → z.1 9 j = μ.1 2 j ∧ z.1 10 j = μ.1 3 j ∧ z.1 11 j = μ.1 4 j ∧ z.1 12 j = μ.1 5 j) 7 (by omega) ?_ (s0 := (0, upI μ 8 0 (μ.1 1 0))) ⟨_, rfl, Nat.zero_le _, Fr.rfl, fun j hj => absurd hj (by omega)⟩
  · obtain ⟨k1, k2, k3⟩ := key
    unfold p_X1_become e_X1_become
    simp only [forall_eq]
    refine ⟨k1, ?_⟩
    generalize whl _ _ FU _ = z at k2 k3 ⊢
    have e8 : z.1 8 0 = nI (f_n F) := by rw [k2.1 8 (by simp), rI, if_pos ⟨rfl, rfl⟩]; exact h.sz
    have e1 : z.1 1 = μ.1 1 := by rw [k2.1 1 (by simp), rIc (by omega)]
    refine ⟨h.1, ?_, fun i hi => ?_, fun i hi => ?_, fun i hi => ?_, fun i hi => ?_, ?_, ?_, ?_⟩
    · simp [rI, e8]
    · simp [rI, (k3 i hi).1]; exact h.w hi
    · simp [rI, (k3 i hi).2.1]; exact h.h hi
    · simp [rI, (k3 i hi).2.2.1]; exact h.p hi
    · simp [rI, (k3 i hi).2.2.2]; exact h.k hi
    · simp [rI, e1]; exact h.o
    · simp [rI, e1]; exact h.t
    · simp [rI, e1]; exact h.z
  · rintro i _ hi ⟨μ', rfl, hi2, hf, hc⟩
    dsimp only
    unfold sd_X1_become_10 bd_X1_become_10
    rw [nI_1, show (7 : Int32) = nI 7 from rfl]
    simp only [nI_leI (show 7 < 2 ^ 31 by omega) (show i < 2 ^ 31 by omega), nI_clamp (show i < 2 ^ 31 by omega)]
    rcases Nat.lt_or_ge i 7 with z | z
    · rw [if_neg (by omega)]
      have v := vp_in_nI (N := 7) z (by omega)
      refine ⟨fun _ => ⟨v, v, fun _ _ => ⟨v, v, fun _ _ => ⟨v, v, fun _ _ => ⟨v, v⟩⟩⟩⟩, .inl ⟨_, rfl, z, _, rfl, by omega, (((hf.up (by simp)).up (by simp)).up (by simp)).up (by simp), fun j hj => ?_⟩⟩
      have g2 : μ'.1 2 = μ.1 2 := by rw [hf.1 2 (by simp), rIc (by omega)]
      have g3 : μ'.1 3 = μ.1 3 := by rw [hf.1 3 (by simp), rIc (by omega)]
      have g4 : μ'.1 4 = μ.1 4 := by rw [hf.1 4 (by simp), rIc (by omega)]
      have g5 : μ'.1 5 = μ.1 5 := by rw [hf.1 5 (by simp), rIc (by omega)]
      by_cases e : j = i
      · subst e; simp [rI, g2, g3, g4, g5]
      · have := hc j (by omega)
        simp [rI, e, this]
    · have e : i = 7 := by omega
      subst e
      rw [if_pos (by omega)]
      exact ⟨fun y => absurd (Nat.le_refl _) y, .inr ⟨_, rfl, hf, hc⟩⟩
end GO
/-! what is done to one -/
def inB (x : Int32) (l h : Int) : Bool := decide (l ≤ x.toInt ∧ x.toInt ≤ h)
theorem ite_in {α : Type} {x l h : Int32} {L H : Int} {A B : α} (hl : l.toInt = L) (hh : h.toInt = H) : (if x < l then A else if x ≤ h then B else A) = if inB x L H then B else A := by
  unfold inB
  simp only [fa_lt, fa_le, hl, hh, decide_eq_true_eq]
  by_cases q : x.toInt < L
  · rw [if_pos q, if_neg (by omega)]
  · rw [if_neg q]
    by_cases q2 : x.toInt ≤ H
    · rw [if_pos q2, if_pos (by omega)]
    · rw [if_neg q2, if_neg (by omega)]
theorem in_B {x : Int32} {l h : Int64} {L H : Int} (hl : l.toInt = L) (hh : h.toInt = H) : v_X12_in x.toInt64 l h = if inB x L H then 1 else 0 := by
  rw [in_T, Int32.toInt_toInt64, hl, hh]
  unfold inB
  by_cases q : L ≤ x.toInt ∧ x.toInt ≤ H
  · rw [if_pos q, if_pos (decide_eq_true q)]
  · rw [if_neg q, if_neg (by simpa using q)]
theorem s0 : (0 : Int64).toInt = 0 := by decide +kernel
theorem s9 : (9 : Int64).toInt = 9 := by decide +kernel
theorem sm9 : (-9 : Int64).toInt = -9 := by decide +kernel
theorem s1 : (1 : Int64).toInt = 1 := by decide +kernel
theorem s2 : (2 : Int64).toInt = 2 := by decide +kernel
theorem s60 : (60 : Int64).toInt = 60 := by decide +kernel
theorem t60 : (60 : Int32).toInt = 60 := by decide +kernel
def ups (f : Nat → Int32) (i : Nat) (v : Int32) : Nat → Int32 := fun j => if j = i then v else f j
def setP (F : FL) (i : Nat) (v : Int32) : FL := (f_n F, f_w F, f_h F, ups (f_p F) i v, f_k F, f_o F, f_t F, f_z F)
def setK (F : FL) (i : Nat) (v : Int32) : FL := (f_n F, f_w F, f_h F, f_p F, ups (f_k F) i v, f_o F, f_t F, f_z F)
def setH (F : FL) (i : Nat) (v : Int32) : FL := (f_n F, f_w F, ups (f_h F) i v, f_p F, f_k F, f_o F, f_t F, f_z F)
def setO (F : FL) (v : Int32) : FL := (f_n F, f_w F, f_h F, f_p F, f_k F, v, f_t F, f_z F)
def setZ (F : FL) (v : Int32) : FL := (f_n F, f_w F, f_h F, f_p F, f_k F, f_o F, f_t F, v)
def absD (x : Int32) : Int32 := if 0 ≤ x then x else 0 - x
def leadV (F : FL) (x v : Int32) : Int32 := if hasF F x then if inB v (-9) 9 then if absD (v - f_p F x.toNatClampNeg) = 0 then -2 else absD (v - f_p F x.toNatClampNeg) else -1 else -1
def leadF (F : FL) (x v : Int32) : FL := if hasF F x then if inB v (-9) 9 then setP F x.toNatClampNeg v else F else F
def sackV (F : FL) (x v : Int32) : Int32 := if hasF F x then if inB v 0 9 then if f_k F x.toNatClampNeg = v then -2 else f_k F x.toNatClampNeg else -1 else -1
def sackF (F : FL) (x v : Int32) : FL := if hasF F x then if inB v 0 9 then setK F x.toNatClampNeg v else F else F
def turnV (F : FL) (x v : Int32) : Int32 := if hasF F x then if inB v (-9) 9 then if f_h F x.toNatClampNeg = v then -2 else 100 + f_h F x.toNatClampNeg else -1 else -1
def turnF (F : FL) (x v : Int32) : FL := if hasF F x then if inB v (-9) 9 then setH F x.toNatClampNeg v else F else F
def stepF (F : FL) (x : Int32) : FL := if hasF F x then setO F (f_o F ^^^ (1 <<< (x &&& 31))) else F
def stepV (F : FL) (x : Int32) : Int32 := if hasF F x then v_J6_bitCount_0f7a4 (preA (setO F (f_o F ^^^ (1 <<< (x &&& 31))))) else -1
def noonV (F : FL) (v : Int32) : Int32 := if inB v 1 60 then if f_z F = v then -2 else f_z F else -1
def noonF (F : FL) (v : Int32) : FL := if inB v 1 60 then setZ F v else F
section AC
variable {b q : Nat} {F : FL} {μ : Mm}
theorem hasF_cl {x : Int32} (hn : f_n F ≤ 7) (h : hasF F x = true) : x.toNatClampNeg < f_n F ∧ x = nI x.toNatClampNeg := by
  obtain ⟨i, hi, rfl⟩ := hasF_ix hn h
  rw [nI_clamp (by omega)]
  exact ⟨hi, rfl⟩
theorem FlC.setP (h : FlC b F μ) {i : Nat} {v : Int32} : FlC b (setP F i v) (upI μ (b + 3) i v) := by
  refine ⟨h.1, ?_, fun j hj => ?_, fun j hj => ?_, fun j hj => ?_, fun j hj => ?_, ?_, ?_, ?_⟩
  · rw [rIc (by omega)]; exact h.sz
  · rw [rIc (by omega)]; exact h.w hj
  · rw [rIc (by omega)]; exact h.h hj
  · rw [rIk]; show (if j = i then v else _) = if j = i then v else _; rw [h.p hj]
  · rw [rIc (by omega)]; exact h.k hj
  · rw [rIc (by omega)]; exact h.o
  · rw [rIc (by omega)]; exact h.t
  · rw [rIc (by omega)]; exact h.z
theorem FlC.setK (h : FlC b F μ) {i : Nat} {v : Int32} : FlC b (setK F i v) (upI μ (b + 4) i v) := by
  refine ⟨h.1, ?_, fun j hj => ?_, fun j hj => ?_, fun j hj => ?_, fun j hj => ?_, ?_, ?_, ?_⟩
  · rw [rIc (by omega)]; exact h.sz
  · rw [rIc (by omega)]; exact h.w hj
  · rw [rIc (by omega)]; exact h.h hj
  · rw [rIc (by omega)]; exact h.p hj
  · rw [rIk]; show (if j = i then v else _) = if j = i then v else _; rw [h.k hj]
  · rw [rIc (by omega)]; exact h.o
  · rw [rIc (by omega)]; exact h.t
  · rw [rIc (by omega)]; exact h.z
theorem FlC.setH (h : FlC b F μ) {i : Nat} {v : Int32} : FlC b (setH F i v) (upI μ (b + 2) i v) := by
  refine ⟨h.1, ?_, fun j hj => ?_, fun j hj => ?_, fun j hj => ?_, fun j hj => ?_, ?_, ?_, ?_⟩
  · rw [rIc (by omega)]; exact h.sz
  · rw [rIc (by omega)]; exact h.w hj
  · rw [rIk]; show (if j = i then v else _) = if j = i then v else _; rw [h.h hj]
  · rw [rIc (by omega)]; exact h.p hj
  · rw [rIc (by omega)]; exact h.k hj
  · rw [rIc (by omega)]; exact h.o
  · rw [rIc (by omega)]; exact h.t
  · rw [rIc (by omega)]; exact h.z
theorem FlC.setO (h : FlC b F μ) {v : Int32} : FlC b (setO F v) (upI μ b 5 v) := by
  refine ⟨h.1, ?_, fun j hj => ?_, fun j hj => ?_, fun j hj => ?_, fun j hj => ?_, ?_, ?_, ?_⟩
  · rw [rI, if_neg (by omega)]; exact h.sz
  · rw [rIc (by omega)]; exact h.w hj
  · rw [rIc (by omega)]; exact h.h hj
  · rw [rIc (by omega)]; exact h.p hj
  · rw [rIc (by omega)]; exact h.k hj
  · rw [rI, if_pos ⟨rfl, rfl⟩]; rfl
  · rw [rI, if_neg (by omega)]; exact h.t
  · rw [rI, if_neg (by omega)]; exact h.z
theorem FlC.setZ (h : FlC b F μ) {v : Int32} : FlC b (setZ F v) (upI μ b 7 v) := by
  refine ⟨h.1, ?_, fun j hj => ?_, fun j hj => ?_, fun j hj => ?_, fun j hj => ?_, ?_, ?_, ?_⟩
  · rw [rI, if_neg (by omega)]; exact h.sz
  · rw [rIc (by omega)]; exact h.w hj
  · rw [rIc (by omega)]; exact h.h hj
  · rw [rIc (by omega)]; exact h.p hj
  · rw [rIc (by omega)]; exact h.k hj
  · rw [rI, if_neg (by omega)]; exact h.o
  · rw [rI, if_neg (by omega)]; exact h.t
  · rw [rI, if_pos ⟨rfl, rfl⟩]; rfl
theorem FlM.set1 {G : FL} (h : FlM q F μ) (hq : q = 52 ∨ q = 53) {a : Nat} {v : Int32} (g1 : f_n G = f_n F) (g2 : f_w G = f_w F) (g3 : ∀ j, j < 7 → f_h G j = if j = a then v else f_h F j) (g4 : ∀ j, j < 7 → f_p G j = if 7 + j = a then v else f_p F j) (g5 : ∀ j, j < 7 → f_k G j = if 14 + j = a then v else f_k F j) (g6 : f_o G = if 21 = a then v else f_o F) (g7 : f_t G = if 22 = a then v else f_t F) (g8 : f_z G = if 23 = a then v else f_z F) : FlM q G (upI μ q a v) := by
  have hk : ∀ j, (upI μ q a v).1 q j = if j = a then v else μ.1 q j := fun j => by
    rw [rI]
    by_cases e : j = a
    · rw [if_pos ⟨rfl, e⟩, if_pos e]
    · rw [if_neg (fun z => e z.2), if_neg e]
  refine ⟨by rw [g1]; exact h.1, ?_, fun j hj => ?_, fun j hj => ?_, fun j hj => ?_, fun j hj => ?_, ?_, ?_, ?_⟩
  · rw [rIc (by omega), g1]; exact h.sz
  · rw [rIc (by omega), g2]; exact h.w hj
  · rw [hk, g3 j hj, h.h hj]
  · rw [hk, g4 j hj, h.p hj]
  · rw [hk, g5 j hj, h.k hj]
  · rw [hk, g6, h.o]
  · rw [hk, g7, h.t]
  · rw [hk, g8, h.z]
theorem FlM.setP (h : FlM q F μ) (hq : q = 52 ∨ q = 53) {i : Nat} (hi : i < 7) {v : Int32} : FlM q (setP F i v) (upI μ q (7 + i) v) := by
  refine h.set1 hq rfl rfl (fun j hj => ?_) (fun j hj => ?_) (fun j hj => ?_) ?_ ?_ ?_
  · rw [if_neg (by omega)]; rfl
  · show (if j = i then v else _) = _
    by_cases e : j = i
    · rw [if_pos e, if_pos (by omega)]
    · rw [if_neg e, if_neg (by omega)]
  · rw [if_neg (by omega)]; rfl
  · rw [if_neg (by omega)]; rfl
  · rw [if_neg (by omega)]; rfl
  · rw [if_neg (by omega)]; rfl
theorem FlM.setK (h : FlM q F μ) (hq : q = 52 ∨ q = 53) {i : Nat} (hi : i < 7) {v : Int32} : FlM q (setK F i v) (upI μ q (14 + i) v) := by
  refine h.set1 hq rfl rfl (fun j hj => ?_) (fun j hj => ?_) (fun j hj => ?_) ?_ ?_ ?_
  · rw [if_neg (by omega)]; rfl
  · rw [if_neg (by omega)]; rfl
  · show (if j = i then v else _) = _
    by_cases e : j = i
    · rw [if_pos e, if_pos (by omega)]
    · rw [if_neg e, if_neg (by omega)]
  · rw [if_neg (by omega)]; rfl
  · rw [if_neg (by omega)]; rfl
  · rw [if_neg (by omega)]; rfl
theorem FlM.setH (h : FlM q F μ) (hq : q = 52 ∨ q = 53) {i : Nat} (hi : i < 7) {v : Int32} : FlM q (setH F i v) (upI μ q i v) := by
  refine h.set1 hq rfl rfl (fun j hj => ?_) (fun j hj => ?_) (fun j hj => ?_) ?_ ?_ ?_
  · rfl
  · rw [if_neg (by omega)]; rfl
  · rw [if_neg (by omega)]; rfl
  · rw [if_neg (by omega)]; rfl
  · rw [if_neg (by omega)]; rfl
  · rw [if_neg (by omega)]; rfl
theorem FlM.setO (h : FlM q F μ) (hq : q = 52 ∨ q = 53) {v : Int32} : FlM q (setO F v) (upI μ q 21 v) := by
  refine h.set1 hq rfl rfl (fun j hj => ?_) (fun j hj => ?_) (fun j hj => ?_) rfl ?_ ?_
  · rw [if_neg (by omega)]; rfl
  · rw [if_neg (by omega)]; rfl
  · rw [if_neg (by omega)]; rfl
  · rw [if_neg (by omega)]; rfl
  · rw [if_neg (by omega)]; rfl
theorem FlM.setZ (h : FlM q F μ) (hq : q = 52 ∨ q = 53) {v : Int32} : FlM q (setZ F v) (upI μ q 23 v) := by
  refine h.set1 hq rfl rfl (fun j hj => ?_) (fun j hj => ?_) (fun j hj => ?_) ?_ ?_ rfl
  · rw [if_neg (by omega)]; rfl
  · rw [if_neg (by omega)]; rfl
  · rw [if_neg (by omega)]; rfl
  · rw [if_neg (by omega)]; rfl
  · rw [if_neg (by omega)]; rfl
theorem C_lead (h : FlC b F μ) (x v : Int32) : p_X1_lead b x v μ ∧ v_X1_lead b x v μ = leadV F x v ∧ FlC b (leadF F x v) (e_X1_lead b x v μ) := by
  have hn := h.1
  unfold p_X1_lead v_X1_lead e_X1_lead leadV leadF
  rw [C_has h, ite_in tm9 t9, ite_in tm9 t9]
  simp only [one0]
  by_cases hx : hasF F x = true
  · obtain ⟨hc, he⟩ := hasF_cl hn hx
    have hv : vp_in x 7 := by rw [he]; exact vp_in_nI (by omega) (by omega)
    simp only [hx, not_true_eq_false, if_false, if_true]
    rw [h.p (by omega)]
    refine ⟨fun _ _ _ => ⟨hv, hv⟩, rfl, ?_⟩
    cases inB v (-9) 9
    · exact h
    · exact h.setP
  · simp only [Bool.not_eq_true] at hx
    simp only [hx, Bool.false_eq_true, not_false_eq_true, if_true, if_false]
    exact ⟨fun z => absurd trivial z, trivial, h⟩
theorem C_burden (h : FlC b F μ) (x v : Int32) : p_X1_burden b x v μ ∧ v_X1_burden b x v μ = sackV F x v ∧ FlC b (sackF F x v) (e_X1_burden b x v μ) := by
  have hn := h.1
  unfold p_X1_burden v_X1_burden e_X1_burden sackV sackF
  rw [C_has h, ite_in t0 t9, ite_in t0 t9]
  simp only [one0]
  by_cases hx : hasF F x = true
  · obtain ⟨hc, he⟩ := hasF_cl hn hx
    have hv : vp_in x 7 := by rw [he]; exact vp_in_nI (by omega) (by omega)
    simp only [hx, not_true_eq_false, if_false, if_true]
    rw [h.k (by omega)]
    refine ⟨fun _ _ _ => ⟨hv, hv⟩, rfl, ?_⟩
    cases inB v 0 9
    · exact h
    · exact h.setK
  · simp only [Bool.not_eq_true] at hx
    simp only [hx, Bool.false_eq_true, not_false_eq_true, if_true, if_false]
    exact ⟨fun z => absurd trivial z, trivial, h⟩
theorem C_turn (h : FlC b F μ) (x v : Int32) : p_X1_turn b x v μ ∧ v_X1_turn b x v μ = turnV F x v ∧ FlC b (turnF F x v) (e_X1_turn b x v μ) := by
  have hn := h.1
  unfold p_X1_turn v_X1_turn e_X1_turn turnV turnF
  rw [C_has h, ite_in tm9 t9, ite_in tm9 t9]
  simp only [one0]
  by_cases hx : hasF F x = true
  · obtain ⟨hc, he⟩ := hasF_cl hn hx
    have hv : vp_in x 7 := by rw [he]; exact vp_in_nI (by omega) (by omega)
    simp only [hx, not_true_eq_false, if_false, if_true]
    rw [h.h (by omega)]
    refine ⟨fun _ _ _ => ⟨hv, hv⟩, rfl, ?_⟩
    cases inB v (-9) 9
    · exact h
    · exact h.setH
  · simp only [Bool.not_eq_true] at hx
    simp only [hx, Bool.false_eq_true, not_false_eq_true, if_true, if_false]
    exact ⟨fun z => absurd trivial z, trivial, h⟩
theorem C_step (h : FlC b F μ) (x : Int32) : v_X1_stepOffOrOn b x μ = stepV F x ∧ FlC b (stepF F x) (e_X1_stepOffOrOn b x μ) := by
  unfold v_X1_stepOffOrOn e_X1_stepOffOrOn stepV stepF
  rw [C_has h, h.o]
  simp only [one0]
  by_cases hx : hasF F x = true
  · simp only [hx, not_true_eq_false, if_false, if_true]
    rw [C_present h.setO]
    exact ⟨rfl, h.setO⟩
  · simp only [Bool.not_eq_true] at hx
    simp only [hx, Bool.false_eq_true, not_false_eq_true, if_true, if_false]
    exact ⟨trivial, h⟩
theorem C_noon (h : FlC b F μ) (v : Int32) : v_X1_setNoon b v μ = noonV F v ∧ FlC b (noonF F v) (e_X1_setNoon b v μ) := by
  unfold v_X1_setNoon e_X1_setNoon noonV noonF
  rw [ite_in t1 t60, ite_in t1 t60, h.z]
  refine ⟨rfl, ?_⟩
  cases inB v 1 60
  · exact h
  · exact h.setZ
theorem M_lead (h : FlM 52 F μ) (x v : Int32) : p_X12_leadsTo x v μ ∧ v_X12_leadsTo x v μ = leadV F x v ∧ FlM 52 (leadF F x v) (e_X12_leadsTo x v μ) := by
  have hn := h.1
  unfold p_X12_leadsTo v_X12_leadsTo e_X12_leadsTo leadV leadF
  rw [M_isOne h, in_B sm9 s9]
  simp only [one0]
  by_cases hx : hasF F x = true
  · obtain ⟨hc, he⟩ := hasF_cl hn hx
    have hv : vp_in (7 + x) 24 := by rw [he]; exact in7 (by omega)
    have h7 : (7 + x).toNatClampNeg = 7 + x.toNatClampNeg := by
      generalize x.toNatClampNeg = i at hc he
      subst he
      exact cl7 (by omega)
    simp only [hx, not_true_eq_false, if_false, if_true]
    rw [h7, h.p (by omega)]
    refine ⟨fun _ _ => ⟨hv, hv⟩, ?_, ?_⟩
    · cases inB v (-9) 9 <;> rfl
    · cases inB v (-9) 9
      · exact h
      · exact h.setP (.inl rfl) (by omega)
  · simp only [Bool.not_eq_true] at hx
    simp only [hx, Bool.false_eq_true, not_false_eq_true, if_true, if_false]
    exact ⟨fun z => absurd trivial z, trivial, h⟩
theorem M_sack (h : FlM 52 F μ) (x v : Int32) : p_X12_sacksTo x v μ ∧ v_X12_sacksTo x v μ = sackV F x v ∧ FlM 52 (sackF F x v) (e_X12_sacksTo x v μ) := by
  have hn := h.1
  unfold p_X12_sacksTo v_X12_sacksTo e_X12_sacksTo sackV sackF p_X12_becomes v_X12_becomes e_X12_becomes
  rw [M_isOne h, in_B s0 s9]
  simp only [one0]
  by_cases hx : hasF F x = true
  · obtain ⟨hc, he⟩ := hasF_cl hn hx
    have hv : vp_in (14 + x) 24 := by rw [he]; exact in14 (by omega)
    have h7 : (14 + x).toNatClampNeg = 14 + x.toNatClampNeg := by
      generalize x.toNatClampNeg = i at hc he
      subst he
      exact cl14 (by omega)
    simp only [hx, not_true_eq_false, if_false, if_true]
    rw [h7, h.k (by omega), Int32.add_zero]
    refine ⟨fun _ _ => ⟨hv, hv⟩, ?_, ?_⟩
    · cases inB v 0 9 <;> rfl
    · cases inB v 0 9
      · exact h
      · exact h.setK (.inl rfl) (by omega)
  · simp only [Bool.not_eq_true] at hx
    simp only [hx, Bool.false_eq_true, not_false_eq_true, if_true, if_false]
    exact ⟨fun z => absurd trivial z, trivial, h⟩
theorem M_turn (h : FlM 52 F μ) (x v : Int32) : p_X12_wishesTo x v μ ∧ v_X12_wishesTo x v μ = turnV F x v ∧ FlM 52 (turnF F x v) (e_X12_wishesTo x v μ) := by
  have hn := h.1
  unfold p_X12_wishesTo v_X12_wishesTo e_X12_wishesTo turnV turnF p_X12_becomes v_X12_becomes e_X12_becomes
  rw [M_isOne h, in_B sm9 s9]
  simp only [one0]
  by_cases hx : hasF F x = true
  · obtain ⟨hc, he⟩ := hasF_cl hn hx
    have hv : vp_in x 24 := by rw [he]; exact vp_in_nI (by omega) (by omega)
    simp only [hx, not_true_eq_false, if_false, if_true]
    rw [h.h (by omega), Int32.add_comm _ 100]
    refine ⟨fun _ _ => ⟨hv, hv⟩, ?_, ?_⟩
    · cases inB v (-9) 9 <;> rfl
    · cases inB v (-9) 9
      · exact h
      · exact h.setH (.inl rfl) (by omega)
  · simp only [Bool.not_eq_true] at hx
    simp only [hx, Bool.false_eq_true, not_false_eq_true, if_true, if_false]
    exact ⟨fun z => absurd trivial z, trivial, h⟩
theorem M_step (h : FlM q F μ) (hq : q = 52 ∨ q = 53) (x : Int32) : v_X12_stepsOff q x μ = stepV F x ∧ FlM q (stepF F x) (e_X12_stepsOff q x μ) := by
  unfold v_X12_stepsOff e_X12_stepsOff stepV stepF
  rw [M_isOne h, cl21, h.o]
  simp only [one0]
  by_cases hx : hasF F x = true
  · simp only [hx, not_true_eq_false, if_false, if_true]
    rw [M_here (h.setO hq)]
    exact ⟨rfl, h.setO hq⟩
  · simp only [Bool.not_eq_true] at hx
    simp only [hx, Bool.false_eq_true, not_false_eq_true, if_true, if_false]
    exact ⟨trivial, h⟩
end AC

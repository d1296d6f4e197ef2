/-! strides: what so many places can add -/
theorem nS_add (f g : Nat → Nat) : ∀ n, nS (fun i => f i + g i) n = nS f n + nS g n
  | 0 => rfl
  | n + 1 => by
    unfold nS
    rw [nS_add f g n]; omega
theorem nS_mono {f g : Nat → Nat} : ∀ {n : Nat}, (∀ i, i < n → f i ≤ g i) → nS f n ≤ nS g n
  | 0, _ => Nat.le_refl _
  | n + 1, h => by
    have h1 := nS_mono (f := f) (g := g) (n := n) (fun i hi => h i (by omega))
    have h2 := h n (by omega)
    unfold nS
    omega
theorem nS_zero {f : Nat → Nat} : ∀ {n : Nat}, (∀ i, i < n → f i = 0) → nS f n = 0
  | 0, _ => rfl
  | n + 1, h => by
    unfold nS
    rw [nS_zero (fun i hi => h i (by omega)), h n (by omega)]
theorem nS_one {f : Nat → Nat} {i n : Nat} (hi : i < n) (h : ∀ j, j < n → j ≠ i → f j = 0) : nS f n = f i := by
  induction n with
  | zero => omega
  | succ n ih =>
    unfold nS
    by_cases e : i = n
    · subst e
      rw [nS_zero (fun j hj => h j (by omega) (by omega)), Nat.zero_add]
    · rw [ih (by omega) (fun j hj hne => h j (by omega) hne), h n (by omega) (by omega), Nat.add_zero]
section ST
variable (rm ld : Nat → Nat)
/-- the room of those from one on who are at least so heavy -/
def Rs (h i : Nat) : Nat := nS (fun j => if i ≤ j ∧ h ≤ ld j then rm j else 0) 7
def Ms (i s : Nat) : Nat := nS (fun h => min s (Rs rm ld (h + 1) i)) 18
theorem Rs_step {h i : Nat} (hi : i < 7) : Rs rm ld h i = (if h ≤ ld i then rm i else 0) + Rs rm ld h (i + 1) := by
  unfold Rs
  have e : nS (fun j => if i ≤ j ∧ h ≤ ld j then rm j else 0) 7 = nS (fun j => (if j = i then (if h ≤ ld i then rm i else 0) else 0) + (if i + 1 ≤ j ∧ h ≤ ld j then rm j else 0)) 7 := nS_congr (fun j hj => by
    by_cases q : j = i
    · subst q
      rw [if_pos rfl, if_neg (show ¬ (j + 1 ≤ j ∧ h ≤ ld j) by omega), Nat.add_zero]
      by_cases q2 : h ≤ ld j
      · rw [if_pos ⟨Nat.le_refl _, q2⟩, if_pos q2]
      · rw [if_neg (fun y => q2 y.2), if_neg q2]
    · rw [if_neg q, Nat.zero_add]
      by_cases q2 : i ≤ j ∧ h ≤ ld j
      · rw [if_pos q2, if_pos ⟨by omega, q2.2⟩]
      · rw [if_neg q2, if_neg (by omega)])
  rw [e, nS_add, nS_one hi (f := fun j => if j = i then (if h ≤ ld i then rm i else 0) else 0) (fun j hj hne => if_neg hne), if_pos rfl]
theorem Rs_end (h : Nat) {i : Nat} (hi : 7 ≤ i) : Rs rm ld h i = 0 := nS_zero (fun j hj => if_neg (by omega))
theorem Rs_mono {h h' i : Nat} (hh : h ≤ h') : Rs rm ld h' i ≤ Rs rm ld h i := nS_mono (fun j _ => by
  by_cases q : i ≤ j ∧ h' ≤ ld j
  · rw [if_pos q, if_pos ⟨q.1, by omega⟩]; exact Nat.le_refl _
  · rw [if_neg q]; exact Nat.zero_le _)
theorem Ms_mono {i s t : Nat} (h : s ≤ t) : Ms rm ld i s ≤ Ms rm ld i t := nS_mono (fun j _ => by omega)
theorem Ms_cap {i s : Nat} (h : Rs rm ld 1 i ≤ s) : Ms rm ld i s = Ms rm ld i (Rs rm ld 1 i) := nS_congr (fun j _ => by
  have := Rs_mono rm ld (h := 1) (h' := j + 1) (i := i) (by omega)
  omega)
theorem Ms_end {i : Nat} (hi : 7 ≤ i) (s : Nat) : Ms rm ld i s = 0 := nS_zero (fun j _ => by rw [Rs_end rm ld _ hi]; exact Nat.min_zero _)
theorem nS_lt (x l : Nat) : ∀ n, l ≤ n → nS (fun h => if h < l then x else 0) n = x * l := by
  intro n
  induction n with
  | zero => intro h; rw [show l = 0 by omega]; rfl
  | succ n ih =>
    intro h
    unfold nS
    by_cases e : l = n + 1
    · have : nS (fun h => if h < l then x else 0) n = nS (fun h => if h < n then x else 0) n := nS_congr (fun j hj => by rw [if_pos (by omega), if_pos hj])
      have e2 : ∀ m, nS (fun h => if h < m then x else 0) m = x * m := by
        intro m
        have : nS (fun h => if h < m then x else 0) m = nS (fun _ => x) m := nS_congr (fun j hj => by rw [if_pos hj])
        rw [this]
        clear this
        induction m with
        | zero => rfl
        | succ m ihm => unfold nS; rw [ihm, Nat.mul_succ]
      rw [this, e2, if_pos (by omega), e, Nat.mul_succ]
    · rw [ih (by omega), if_neg (by omega), Nat.add_zero]
/-- nobody does better by hand -/
theorem Ms_upper {i s x : Nat} (hi : i < 7) (hl : ld i ≤ 18) (hx : x ≤ rm i) (hs : x ≤ s) : x * ld i + Ms rm ld (i + 1) (s - x) ≤ Ms rm ld i s := by
  unfold Ms
  rw [← nS_lt x (ld i) 18 hl, ← nS_add]
  refine nS_mono (fun h _ => ?_)
  rw [Rs_step rm ld hi]
  by_cases q : h < ld i
  · rw [if_pos q, if_pos (by omega)]; omega
  · rw [if_neg q, if_neg (by omega)]; omega
def bsx (i s : Nat) : Nat := min (rm i) (s - min s (Rs rm ld (ld i + 1) (i + 1)))
theorem Ms_best {i s : Nat} (hi : i < 7) (hl : ld i ≤ 18) : bsx rm ld i s * ld i + Ms rm ld (i + 1) (s - bsx rm ld i s) = Ms rm ld i s := by
  unfold Ms
  rw [← nS_lt (bsx rm ld i s) (ld i) 18 hl, ← nS_add]
  refine nS_congr (fun h _ => ?_)
  rw [Rs_step rm ld hi]
  unfold bsx
  by_cases q : h < ld i
  · have := Rs_mono rm ld (h := h + 1) (h' := ld i + 1) (i := i + 1) (by omega)
    rw [if_pos q, if_pos (by omega)]; omega
  · have := Rs_mono rm ld (h := ld i + 1) (h' := h + 1) (i := i + 1) (by omega)
    rw [if_neg q, if_neg (by omega)]; omega
theorem bsx_ok {i s : Nat} (hi : i < 7) (h1 : 1 ≤ ld i) (hs : s ≤ Rs rm ld 1 i) : bsx rm ld i s ≤ rm i ∧ bsx rm ld i s ≤ s ∧ s - bsx rm ld i s ≤ Rs rm ld 1 (i + 1) := by
  rw [Rs_step rm ld hi, if_pos h1] at hs
  have := Rs_mono rm ld (h := 1) (h' := ld i + 1) (i := i + 1) (by omega)
  unfold bsx
  omega
end ST

/-! a rule's signs, one by one: what is told already, what waits, whether a thing is wanted, how deep, what was compared, how many digits -/
def brk (x : Nat) : Nat := if x = 60 ∨ x = 62 ∨ x = 61 then 1 else if x = 43 ∨ x = 45 then 2 else if x = 42 ∨ x = 47 then 3 else 0
def rkO (x : Nat) : Nat := if x = 126 then 4 else brk x
def cdO (x : Nat) : Nat := if x = 126 then 3000 else if x = 60 then 2000 else if x = 62 then 2001 else if x = 61 then 2002 else if x = 43 then 2003 else if x = 45 then 2004 else if x = 42 then 2005 else 2006
def thW : List Nat := [99, 112, 119, 109, 113, 105, 110]
def thg' (x : Nat) : Option Nat := ff (fun j => decide (thW.getD j 0 = x)) 0 7
def tw (r : Nat) (k : List Nat) : List Nat := k.takeWhile (fun c => decide (r ≤ rkO c))
def dw (r : Nat) (k : List Nat) : List Nat := k.dropWhile (fun c => decide (r ≤ rkO c))
abbrev RS : Type := List Nat × List Nat × Bool × Nat × (Nat → Bool) × Nat
def stp (o k : List Nat) (w : Bool) (d : Nat) (c : Nat → Bool) (g x : Nat) : Option RS :=
  if w = true then
    (if x = 45 then some (o, 126 :: k, true, d, c, g)
     else if x = 40 then (if d < 4 then some (o, 40 :: k, true, d + 1, (fun i => if i = d + 1 then false else c i), g) else none)
     else if 48 ≤ x ∧ x ≤ 57 then some (o ++ [x - 48], k, false, d, c, 1)
     else (thg' x).map (fun t => (o ++ [1000 + t], k, false, d, c, g)))
  else
    (if 48 ≤ x ∧ x ≤ 57 then (if 1 ≤ g ∧ g < 3 then some (o.dropLast ++ [10 * o.getLastD 0 + (x - 48)], k, false, d, c, g + 1) else none)
     else if x = 41 then (if 1 ≤ d then some (o ++ (tw 1 k).map cdO, (dw 1 k).tail, false, d - 1, c, 0) else none)
     else if brk x = 0 then none
     else if brk x = 1 ∧ c d = true then none
     else some (o ++ (tw (brk x) k).map cdO, x :: dw (brk x) k, true, d, (fun i => if i = d ∧ brk x = 1 then true else c i), 0))
def stpS (S : RS) (x : Nat) : Option RS := stp S.1 S.2.1 S.2.2.1 S.2.2.2.1 S.2.2.2.2.1 S.2.2.2.2.2 x
def run (T : List Nat) : Nat → Nat → RS → Option RS
  | 0, _, S => some S
  | n + 1, a, S => (stpS S (chT T a)).bind (run T n (a + 1))
def Rn (T : List Nat) (a : Nat) (S : RS) (b : Nat) (S' : RS) : Prop := a ≤ b ∧ run T (b - a) a S = some S'
theorem run_add {T : List Nat} {m : Nat} : ∀ {n a : Nat} {S : RS}, run T (n + m) a S = (run T n a S).bind (run T m (a + n))
  | 0, a, S => by rw [Nat.zero_add]; rfl
  | n + 1, a, S => by
    rw [show n + 1 + m = (n + m) + 1 by omega]
    show (stpS S (chT T a)).bind (run T (n + m) (a + 1)) = ((stpS S (chT T a)).bind (run T n (a + 1))).bind (run T m (a + (n + 1)))
    cases stpS S (chT T a) with
    | none => rfl
    | some S' =>
      show run T (n + m) (a + 1) S' = (run T n (a + 1) S').bind (run T m (a + (n + 1)))
      rw [run_add, show a + 1 + n = a + (n + 1) by omega]
theorem Rn.rfl {T : List Nat} {a : Nat} {S : RS} : Rn T a S a S := ⟨Nat.le_refl _, by rw [Nat.sub_self]; exact Eq.refl _⟩
theorem Rn.tr {T : List Nat} {a b c : Nat} {S S' S'' : RS} (h : Rn T a S b S') (h2 : Rn T b S' c S'') : Rn T a S c S'' := by
  obtain ⟨h1, h3⟩ := h
  obtain ⟨h4, h5⟩ := h2
  refine ⟨by omega, ?_⟩
  rw [show c - a = (b - a) + (c - b) by omega, run_add, h3]
  show run T (c - b) (a + (b - a)) S' = _
  rw [show a + (b - a) = b by omega]; exact h5
theorem Rn.st {T : List Nat} {a : Nat} {S S' : RS} (h : stpS S (chT T a) = some S') : Rn T a S (a + 1) S' := by
  refine ⟨by omega, ?_⟩
  rw [show a + 1 - a = 0 + 1 by omega]
  show (stpS S (chT T a)).bind (run T 0 (a + 1)) = _
  rw [h]; exact Eq.refl _
/-- where the signs stop to stand -/
def EnR (T : List Nat) (S0 : RS) (e b : Nat) (S : RS) : Prop := b ≤ e ∧ Rn T 0 S0 b S ∧ (b < e → stpS S (chT T b) = none)
theorem EnR_uq {T : List Nat} {S0 : RS} {e b b' : Nat} {S S' : RS} (h : EnR T S0 e b S) (h' : EnR T S0 e b' S') : b = b' ∧ S = S' := by
  have key : ∀ {b b' : Nat} {S S' : RS}, EnR T S0 e b S → EnR T S0 e b' S' → ¬ b < b' := by
    intro b b' S S' h h' hlt
    obtain ⟨h1, ⟨h2, h3⟩, h4⟩ := h
    obtain ⟨g1, ⟨g2, g3⟩, g4⟩ := h'
    rw [Nat.sub_zero] at h3 g3
    rw [show b' = b + ((b' - b - 1) + 1) by omega, run_add, h3] at g3
    have g5 : (stpS S (chT T (0 + b))).bind (run T (b' - b - 1) (0 + b + 1)) = some S' := g3
    rw [Nat.zero_add, h4 (by omega)] at g5
    cases g5
  have hb : b = b' := by
    rcases Nat.lt_trichotomy b b' with y | y | y
    · exact absurd y (key h h')
    · exact y
    · exact absurd y (key h' h)
  subst hb
  refine ⟨Eq.refl _, ?_⟩
  have h3 := h.2.1.2
  rw [h'.2.1.2] at h3
  cases h3; exact Eq.refl _
/-! what stays so -/
def lnS (S : RS) : Nat := S.1.length + S.2.1.length
theorem tdw (r : Nat) (k : List Nat) : (tw r k).length + (dw r k).length = k.length := by
  unfold tw dw
  conv => rhs; rw [← List.takeWhile_append_dropWhile (p := fun c => decide (r ≤ rkO c)) (l := k)]
  rw [List.length_append]
theorem stp_ln {o k : List Nat} {w : Bool} {d : Nat} {c : Nat → Bool} {g x : Nat} {S' : RS} (h : stp o k w d c g x = some S') : lnS S' ≤ o.length + k.length + 1 := by
  unfold stp at h
  unfold lnS
  cases w
  · rw [if_neg (by decide)] at h
    by_cases x1 : 48 ≤ x ∧ x ≤ 57
    · rw [if_pos x1] at h
      by_cases y : 1 ≤ g ∧ g < 3
      · rw [if_pos y] at h; cases h
        simp only [List.length_append, List.length_dropLast, List.length_cons, List.length_nil]; omega
      · rw [if_neg y] at h; cases h
    · rw [if_neg x1] at h
      by_cases x2 : x = 41
      · rw [if_pos x2] at h
        by_cases y : 1 ≤ d
        · rw [if_pos y] at h; cases h
          have := tdw 1 k
          simp only [List.length_append, List.length_map, List.length_tail]; omega
        · rw [if_neg y] at h; cases h
      · rw [if_neg x2] at h
        by_cases x3 : brk x = 0
        · rw [if_pos x3] at h; cases h
        · rw [if_neg x3] at h
          by_cases x4 : brk x = 1 ∧ c d = true
          · rw [if_pos x4] at h; cases h
          · rw [if_neg x4] at h; cases h
            have := tdw (brk x) k
            simp only [List.length_append, List.length_map, List.length_cons]; omega
  · rw [if_pos rfl] at h
    by_cases x1 : x = 45
    · rw [if_pos x1] at h; cases h
      simp only [List.length_cons]; omega
    · rw [if_neg x1] at h
      by_cases x2 : x = 40
      · rw [if_pos x2] at h
        by_cases y : d < 4
        · rw [if_pos y] at h; cases h
          simp only [List.length_cons]; omega
        · rw [if_neg y] at h; cases h
      · rw [if_neg x2] at h
        by_cases x3 : 48 ≤ x ∧ x ≤ 57
        · rw [if_pos x3] at h; cases h
          simp only [List.length_append, List.length_cons, List.length_nil]; omega
        · rw [if_neg x3] at h
          cases ht : thg' x with
          | none => rw [ht] at h; cases h
          | some t =>
            rw [ht] at h; cases h
            simp only [List.length_append, List.length_cons, List.length_nil]; omega
theorem run_ln {T : List Nat} : ∀ {n a : Nat} {S S' : RS}, run T n a S = some S' → lnS S' ≤ lnS S + n
  | 0, a, S, S', h => by cases h; exact Nat.le_refl _
  | n + 1, a, S, S', h => by
    have h' : (stpS S (chT T a)).bind (run T n (a + 1)) = some S' := h
    cases hs : stpS S (chT T a) with
    | none => rw [hs] at h'; cases h'
    | some S2 =>
      rw [hs] at h'
      have h1 := run_ln (T := T) (n := n) (a := a + 1) (S := S2) (S' := S') h'
      have h2 := stp_ln hs
      have h3 : S.1.length + S.2.1.length = lnS S := Eq.refl _
      omega
theorem Rn.ln {T : List Nat} {a b : Nat} {S S' : RS} (h : Rn T a S b S') (hs : lnS S ≤ a) : lnS S' ≤ b := by
  have := run_ln h.2
  have := h.1
  omega
/-! depths -/
def dst (t d : Nat) : Option Nat := if t < 2000 then some (d + 1) else if t = 3000 then (if 1 ≤ d then some d else none) else (if 2 ≤ d then some (d - 1) else none)
def dpt : List Nat → Nat → Option Nat
  | [], d => some d
  | t :: r, d => (dst t d).bind (dpt r)
theorem dpt_app {m : List Nat} : ∀ {l : List Nat} {d : Nat}, dpt (l ++ m) d = (dpt l d).bind (dpt m)
  | [], d => rfl
  | t :: r, d => by
    show (dst t d).bind (dpt (r ++ m)) = ((dst t d).bind (dpt r)).bind (dpt m)
    cases dst t d with
    | none => rfl
    | some d' => exact dpt_app
theorem wfd_of : ∀ {l : List Nat} {d : Nat}, (∀ t, t ∈ l → okT t) → dpt l d = some 1 → wfd l d
  | [], d, _, h => by cases h; rfl
  | t :: r, d, ho, h => by
    have h' : (dst t d).bind (dpt r) = some 1 := h
    have hr : ∀ t, t ∈ r → okT t := fun u hu => ho u (List.mem_cons_of_mem _ hu)
    have hot := ho t List.mem_cons_self
    unfold dst at h'
    refine ⟨hot, fun y => ?_, fun y => ?_, fun y1 y2 => ?_⟩
    · rw [if_pos y] at h'; exact wfd_of hr h'
    · rw [if_neg (by omega), if_pos y] at h'
      by_cases q : 1 ≤ d
      · rw [if_pos q] at h'; exact ⟨q, wfd_of hr h'⟩
      · rw [if_neg q] at h'; cases h'
    · rw [if_neg (by omega), if_neg (by omega)] at h'
      by_cases q : 2 ≤ d
      · rw [if_pos q] at h'; exact ⟨q, wfd_of hr h'⟩
      · rw [if_neg q] at h'; cases h'
def nbK (k : List Nat) : Nat := (k.filter (fun c => decide (1 ≤ brk c))).length
def okK (c : Nat) : Prop := c = 126 ∨ c = 40 ∨ 1 ≤ brk c
theorem cdO_ok {c : Nat} (h : 1 ≤ rkO c) : okT (cdO c) ∧ (c = 126 ∧ cdO c = 3000 ∨ (1 ≤ brk c ∧ 2000 ≤ cdO c ∧ cdO c < 2007)) := by
  unfold rkO brk at h
  unfold okT cdO brk
  by_cases c0 : c = 126
  · subst c0; simp
  · rw [if_neg c0] at h
    by_cases c1 : c = 60
    · subst c1; simp
    · by_cases c2 : c = 62
      · subst c2; simp
      · by_cases c3 : c = 61
        · subst c3; simp
        · by_cases c4 : c = 43
          · subst c4; simp
          · by_cases c5 : c = 45
            · subst c5; simp
            · by_cases c6 : c = 42
              · subst c6; simp
              · by_cases c7 : c = 47
                · subst c7; simp
                · rw [if_neg (by omega), if_neg (by omega), if_neg (by omega)] at h; omega
/-- what waits, told, works on what is there -/
theorem dpt_P : ∀ {P k : List Nat}, (∀ c, c ∈ P → 1 ≤ rkO c) → dpt (P.map cdO) (nbK (P ++ k) + 1) = some (nbK k + 1)
  | [], k, _ => rfl
  | c :: P, k, h => by
    have hc := h c List.mem_cons_self
    have ih := dpt_P (P := P) (k := k) (fun x hx => h x (List.mem_cons_of_mem _ hx))
    obtain ⟨-, h2⟩ := cdO_ok hc
    show (dst (cdO c) (nbK (c :: (P ++ k)) + 1)).bind (dpt (P.map cdO)) = _
    unfold dst
    rcases h2 with ⟨e, e2⟩ | ⟨e, e2, e3⟩
    · have en : nbK (c :: (P ++ k)) = nbK (P ++ k) := by
        unfold nbK
        rw [List.filter_cons_of_neg (by rw [e]; decide)]
      rw [e2, en, if_neg (by decide), if_pos rfl, if_pos (by omega)]; exact ih
    · have en : nbK (c :: (P ++ k)) = nbK (P ++ k) + 1 := by
        unfold nbK
        rw [List.filter_cons_of_pos (by simpa using e)]; rfl
      rw [en, if_neg (by omega), if_neg (by omega), if_pos (by omega), show nbK (P ++ k) + 1 + 1 - 1 = nbK (P ++ k) + 1 by omega]; exact ih
theorem tw_all {r : Nat} {P k : List Nat} (hP : ∀ c, c ∈ P → r ≤ rkO c) (hk : rkO (k.headD 40) < r) : tw r (P ++ k) = P ∧ dw r (P ++ k) = k := by
  induction P with
  | nil =>
    cases k with
    | nil => exact ⟨rfl, rfl⟩
    | cons c k =>
      have hk' : rkO c < r := hk
      unfold tw dw
      rw [List.nil_append, List.takeWhile_cons_of_neg (by simpa using hk'), List.dropWhile_cons_of_neg (by simpa using hk')]
      exact ⟨rfl, rfl⟩
  | cons c P ih =>
    obtain ⟨i1, i2⟩ := ih (fun x hx => hP x (List.mem_cons_of_mem _ hx))
    have hc := hP c List.mem_cons_self
    unfold tw at i1
    unfold dw at i2
    unfold tw dw
    rw [List.cons_append, List.takeWhile_cons_of_pos (by simpa using hc), List.dropWhile_cons_of_pos (by simpa using hc), i1, i2]
    exact ⟨rfl, rfl⟩

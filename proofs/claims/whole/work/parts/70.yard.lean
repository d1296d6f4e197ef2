/-! what holds of the signs that were taken -/
def InV (o k : List Nat) (w : Bool) (d g i : Nat) : Prop := o.length + k.length ≤ i ∧ (∀ t, t ∈ o → okT t) ∧ dpt o 0 = some (nbK k + (if w = true then 0 else 1)) ∧ (∀ y, y ∈ k → okK y) ∧ g ≤ 3 ∧ (w = true → g = 0) ∧ (1 ≤ g → ∃ o' v, o = o' ++ [v] ∧ v < 10 ^ g) ∧ d ≤ 4
theorem tdw_k (r : Nat) (k : List Nat) : tw r k ++ dw r k = k := List.takeWhile_append_dropWhile
theorem tw_in {r : Nat} : ∀ {k : List Nat} {y : Nat}, y ∈ tw r k → r ≤ rkO y ∧ y ∈ k
  | [], y, h => by cases h
  | c :: k, y, h => by
    unfold tw at h
    by_cases q : r ≤ rkO c
    · rw [List.takeWhile_cons_of_pos (by simpa using q)] at h
      rcases List.mem_cons.mp h with e | e
      · rw [e]; exact ⟨q, List.mem_cons_self⟩
      · obtain ⟨h1, h2⟩ := tw_in (k := k) e
        exact ⟨h1, List.mem_cons_of_mem _ h2⟩
    · rw [List.takeWhile_cons_of_neg (by simpa using q)] at h
      cases h
theorem dw_in {r : Nat} {k : List Nat} {y : Nat} (h : y ∈ dw r k) : y ∈ k := by
  rw [← tdw_k r k]; exact List.mem_append_right _ h
theorem dw_hd {r : Nat} : ∀ {k : List Nat} {y : Nat} {k' : List Nat}, dw r k = y :: k' → rkO y < r
  | [], y, k', h => by cases h
  | c :: k, y, k', h => by
    unfold dw at h
    by_cases q : r ≤ rkO c
    · rw [List.dropWhile_cons_of_pos (by simpa using q)] at h
      exact dw_hd (k := k) h
    · rw [List.dropWhile_cons_of_neg (by simpa using q)] at h
      cases h; omega
theorem nbK_tl {k : List Nat} : nbK (dw 1 k).tail = nbK (dw 1 k) := by
  cases h : dw 1 k with
  | nil => rfl
  | cons y k' =>
    have := dw_hd h
    unfold nbK
    rw [List.filter_cons_of_neg (by
      unfold rkO at this
      by_cases q : y = 126
      · rw [if_pos q] at this; omega
      · rw [if_neg q] at this
        simpa using this), List.tail_cons]
theorem dpt_tw {o k : List Nat} {r : Nat} (hr : 1 ≤ r) (h : dpt o 0 = some (nbK k + 1)) : dpt (o ++ (tw r k).map cdO) 0 = some (nbK (dw r k) + 1) := by
  rw [dpt_app, h]
  show dpt ((tw r k).map cdO) (nbK k + 1) = _
  have := dpt_P (P := tw r k) (k := dw r k) (fun c hc => by have := (tw_in hc).1; omega)
  rw [tdw_k] at this; exact this
theorem okT_tw {o k : List Nat} {r : Nat} (hr : 1 ≤ r) (h : ∀ t, t ∈ o → okT t) : ∀ t, t ∈ o ++ (tw r k).map cdO → okT t := by
  intro t ht
  rcases List.mem_append.mp ht with y | y
  · exact h t y
  · obtain ⟨c, hc, rfl⟩ := List.mem_map.mp y
    exact (cdO_ok (by have := (tw_in hc).1; omega)).1
theorem InV_s {o k o' k' : List Nat} {w w' : Bool} {d d' g g' i x : Nat} {c c' : Nat → Bool} (h : InV o k w d g i) (hs : stp o k w d c g x = some (o', k', w', d', c', g')) : InV o' k' w' d' g' (i + 1) := by
  obtain ⟨h1, h2, h3, h4, h5, h6, h7, h8⟩ := h
  have hln := stp_ln hs
  have hln' : o'.length + k'.length ≤ i + 1 := by
    have : o'.length + k'.length ≤ o.length + k.length + 1 := hln
    omega
  unfold stp at hs
  cases w
  · rw [if_neg (by decide)] at hs
    have h3' : dpt o 0 = some (nbK k + 1) := h3
    by_cases x1 : 48 ≤ x ∧ x ≤ 57
    · rw [if_pos x1] at hs
      by_cases y : 1 ≤ g ∧ g < 3
      · rw [if_pos y] at hs; cases hs
        obtain ⟨oo, v, e1, e2⟩ := h7 y.1
        subst e1
        have ed : (oo ++ [v]).dropLast ++ [10 * (oo ++ [v]).getLastD 0 + (x - 48)] = oo ++ [10 * v + (x - 48)] := by simp
        have hp : v < 100 ∧ 10 * v + (x - 48) < 10 ^ (g + 1) := by
          have : g = 1 ∨ g = 2 := by omega
          rcases this with rfl | rfl
          · have : v < 10 := e2
            have : (10 : Nat) ^ (1 + 1) = 100 := rfl
            omega
          · have : v < 100 := e2
            have : (10 : Nat) ^ (2 + 1) = 1000 := rfl
            omega
        rw [ed] at hln' ⊢
        refine ⟨hln', fun t ht => ?_, ?_, h4, by omega, fun y => absurd y (by decide), fun _ => ⟨oo, _, rfl, hp.2⟩, h8⟩
        · rcases List.mem_append.mp ht with y | y
          · exact h2 t (List.mem_append_left _ y)
          · rw [List.mem_singleton.mp y]
            left; omega
        · rw [dpt_app] at h3' ⊢
          rw [show dpt [10 * v + (x - 48)] = dpt [v] from by
            funext z
            show (dst (10 * v + (x - 48)) z).bind (dpt []) = (dst v z).bind (dpt [])
            unfold dst
            rw [if_pos (by omega), if_pos (by omega)]]
          exact h3'
      · rw [if_neg y] at hs; cases hs
    · rw [if_neg x1] at hs
      by_cases x2 : x = 41
      · rw [if_pos x2] at hs
        by_cases y : 1 ≤ d
        · rw [if_pos y] at hs; cases hs
          refine ⟨hln', okT_tw (by omega) h2, ?_, fun z hz => h4 z (dw_in (List.mem_of_mem_tail hz)), by omega, fun _ => rfl, fun z => absurd z (by omega), by omega⟩
          rw [nbK_tl]
          exact dpt_tw (by omega) h3'
        · rw [if_neg y] at hs; cases hs
      · rw [if_neg x2] at hs
        by_cases x3 : brk x = 0
        · rw [if_pos x3] at hs; cases hs
        · rw [if_neg x3] at hs
          by_cases x4 : brk x = 1 ∧ c d = true
          · rw [if_pos x4] at hs; cases hs
          · rw [if_neg x4] at hs; cases hs
            refine ⟨hln', okT_tw (by omega) h2, ?_, fun z hz => ?_, by omega, fun _ => rfl, fun z => absurd z (by omega), h8⟩
            · rw [dpt_tw (by omega) h3']
              unfold nbK
              rw [List.filter_cons_of_pos (by simp; omega)]; rfl
            · rcases List.mem_cons.mp hz with e | e
              · rw [e]; right; right; omega
              · exact h4 z (dw_in e)
  · rw [if_pos rfl] at hs
    have h3' : dpt o 0 = some (nbK k) := h3
    have g0 : g = 0 := h6 rfl
    subst g0
    have hst : ∀ t, t < 2000 → dpt (o ++ [t]) 0 = some (nbK k + 1) := fun t ht => by
      rw [dpt_app, h3']
      show (dst t (nbK k)).bind (dpt []) = _
      unfold dst
      rw [if_pos ht]; rfl
    by_cases x1 : x = 45
    · rw [if_pos x1] at hs; cases hs
      refine ⟨hln', h2, ?_, fun z hz => ?_, by omega, fun _ => rfl, fun z => absurd z (by omega), h8⟩
      · unfold nbK at h3' ⊢
        rw [List.filter_cons_of_neg (by decide)]; exact h3'
      · rcases List.mem_cons.mp hz with e | e
        · rw [e]; left; rfl
        · exact h4 z e
    · rw [if_neg x1] at hs
      by_cases x2 : x = 40
      · rw [if_pos x2] at hs
        by_cases y : d < 4
        · rw [if_pos y] at hs; cases hs
          refine ⟨hln', h2, ?_, fun z hz => ?_, by omega, fun _ => rfl, fun z => absurd z (by omega), by omega⟩
          · unfold nbK at h3' ⊢
            rw [List.filter_cons_of_neg (by decide)]; exact h3'
          · rcases List.mem_cons.mp hz with e | e
            · rw [e]; right; left; rfl
            · exact h4 z e
        · rw [if_neg y] at hs; cases hs
      · rw [if_neg x2] at hs
        by_cases x3 : 48 ≤ x ∧ x ≤ 57
        · rw [if_pos x3] at hs; cases hs
          refine ⟨hln', fun t ht => ?_, hst (x - 48) (by omega), h4, by omega, fun y => absurd y (by decide), fun _ => ⟨o, x - 48, rfl, by omega⟩, h8⟩
          rcases List.mem_append.mp ht with y | y
          · exact h2 t y
          · rw [List.mem_singleton.mp y]; left; omega
        · rw [if_neg x3] at hs
          cases ht : thg' x with
          | none => rw [ht] at hs; cases hs
          | some t =>
            rw [ht] at hs
            have ht7 : t < 7 := by have := (ff_rg ht).2; omega
            cases hs
            refine ⟨hln', fun t' ht' => ?_, hst (1000 + t) (by omega), h4, by omega, fun y => absurd y (by decide), fun z => absurd z (by omega), h8⟩
            rcases List.mem_append.mp ht' with y | y
            · exact h2 t' y
            · rw [List.mem_singleton.mp y]; right; left; omega
theorem InV_0 : InV [] [] true 0 0 0 := ⟨Nat.le_refl _, fun t ht => absurd ht (by simp), rfl, fun t ht => absurd ht (by simp), by omega, fun _ => rfl, fun z => absurd z (by omega), by omega⟩
theorem okK_lt {c : Nat} (h : okK c) : c < 256 := by
  rcases h with h | h | h
  · omega
  · omega
  · unfold brk at h
    by_cases q1 : c = 60 ∨ c = 62 ∨ c = 61
    · omega
    · rw [if_neg q1] at h
      by_cases q2 : c = 43 ∨ c = 45
      · omega
      · rw [if_neg q2] at h
        by_cases q3 : c = 42 ∨ c = 47
        · omega
        · rw [if_neg q3] at h; omega

/-! making: calls of constructors, of a method on the own cell and the one behind it -/
theorem at_left {α : Type} {w1 w2 : List α} {i : Nat} {x : α} (h : w1[i]? = some x) : (w1 ++ w2)[i]? = some x := by
  rw [List.getElem?_append_left (List.getElem?_eq_some_iff.mp h).1]; exact h
theorem at_right {α : Type} {w1 w2 : List α} {i : Nat} {x : α} (h : w2[i]? = some x) : (w1 ++ w2)[w1.length + i]? = some x := by
  rw [List.getElem?_append_right (by omega), Nat.add_sub_cancel_left]; exact h
theorem P_left {D : va_G} {cl : List vw_C} {w1 w2 : va_W} {H : Heap} (h : va_P D cl (w1 ++ w2) H) : va_P D cl w1 H := fun i x hx => h i x (at_left hx)
theorem P_right {D : va_G} {cl : List vw_C} {w1 w2 : va_W} {H : Heap} (h : va_P D cl (w1 ++ w2) H) : va_P D cl w2 H := fun _ x hx => h _ x (at_right hx)
theorem D_left {A : Nat → Prop} {w1 w2 : va_W} (h : va_D A (w1 ++ w2)) : va_D A w1 := ⟨fun i j p q hp hq e => h.1 i j p q (at_left hp) (at_left hq) e, fun i x hx => h.2 i x (at_left hx)⟩
theorem D_right {A : Nat → Prop} {w1 w2 : va_W} (h : va_D A (w1 ++ w2)) : va_D A w2 := ⟨fun i j p q hp hq e => by have := h.1 _ _ p q (at_right hp) (at_right hq) e; omega, fun _ x hx => h.2 _ x (at_right hx)⟩
theorem D_apart {A : Nat → Prop} {w1 w2 : va_W} (h : va_D A (w1 ++ w2)) : ∀ (i j : Nat) (x y : Nat × va_E), w1[i]? = some x → w2[j]? = some y → x.1 ≠ y.1 := fun i j x y hx hy e => by
  have h1 := h.1 i (w1.length + j) x y (at_left hx) (at_right hy) e
  have h2 := (List.getElem?_eq_some_iff.mp hx).1
  omega
theorem mk_apart {D : va_G} {cl : List vw_C} {wr wc w1 : va_W} {H H1 : Heap} (hPr : va_P D cl wr H) (hap : ∀ (i j : Nat) (x y : Nat × va_E), wr[i]? = some x → wc[j]? = some y → x.1 ≠ y.1) (hk : ∀ q : Nat, q < H.size → ¬ va_A wc H.size q → H1[q]? = H[q]?) (hD1 : va_D (va_A wc H.size) w1) :
    va_P D cl wr H1 ∧ ∀ (i j : Nat) (x y : Nat × va_E), wr[i]? = some x → w1[j]? = some y → x.1 ≠ y.1 := by
  have ap : ∀ (i : Nat) (x : Nat × va_E), wr[i]? = some x → x.1 < H.size ∧ ¬ va_A wc H.size x.1 := by
    intro i x hx
    have hl := (hPr i x hx).lt
    refine ⟨hl, ?_⟩
    rintro (⟨j, e, h⟩ | h)
    · exact hap i j x _ hx h rfl
    · omega
  exact ⟨hPr.kept (fun i x hx => hk x.1 (ap i x hx).1 (ap i x hx).2), fun i j x y hx hy e => (ap i x hx).2 (by rw [e]; exact hD1.2 j y hy)⟩
def MadeOK (M' : Mx) : Prop := (Cond.instanceMethod M'.1 ∈ Tg ∧ Cond.initialized M'.1.cls ∈ Tg ∧ Cond.code M'.1 M'.2.1 M'.2.2.1 M'.2.2.2 ∈ Tg) ∧ (M'.1.name = "<init>" ∧ M'.2.2.2 = none) ∧ (M'.1.cls ≠ "java/lang/invoke/MethodHandle" ∧ M'.1.cls ≠ "java/lang/invoke/VarHandle" ∧ (parseMethodDescriptor M'.1.desc).map (fun d => d.parameters.length) = some 0) ∧ M'.2.2.1 ≤ 41
section IC
variable {B : Bx} {G : Gx} {d : Nat} {M : Mx} {pc : Nat} {ls : List (Nat × Value)} {st : List Value} {k n : Nat} {ws : va_W}
theorem free_of {wc : va_W} {H : Heap} {locs : List Loc} (hF : Ix B d M G) (hD : va_D (gA G) wc) (hS : va_S (gA G) (gs G).heap H locs) : ∀ q, va_A wc H.size q → gA G q := by
  rintro q (⟨j, e, h⟩ | h)
  · exact hD.2 j _ h
  · exact hF.A _ (Nat.le_trans hS.1 h)
theorem pre_of {wc : va_W} {H : Heap} {vs : List Value} (hF : Ix B d M G) (hP : va_P B.2.1 vwCl wc H) (hD : va_D (gA G) wc) : ∀ U : State, U.heap = H → (gs G).WarmedH U.vm → Pmx B vs wc H.size vs.toArray U :=
  fun U hU hW => ⟨rfl, by rw [hU], by rw [hU]; exact hP, va_K.moved hW.alike hF.K, hD.weaken (fun _ _ _ _ => trivial), Nk.warm hW hF.N⟩
theorem I_callI {idx q ci d' mc ms : Nat} {M' : Mx} {z : List Value} {w1 : (Nat → Nat) → va_W} (hd : decode M.2.1 pc = .ok (.invokespecial idx, 3)) (hM : MadeOK M') (hl0 : Cond.methodLink M.1.cls idx M'.1 ∈ Tg) (hw : (st.map fun v => v.category).sum ≤ 8) (hdd : d' + 1 ≤ d) (h1 : k + mc ≤ (gR G).cells) (h2 : n + ms ≤ (gR G).slots)
    (con : Mk B d' M' [.ref q] [(q, .inr (ci, z))] w1 mc ms) (kk : ∀ a, I B G d M (pc + 3) ls st (k + mc) (n + ms) (ws ++ w1 a)) : I B G d M pc ls (.ref q :: st) k n (ws ++ [(q, .inr (ci, z))]) := by
  obtain ⟨y, cb, ml, r⟩ := M'
  obtain ⟨⟨w1', w2', w3'⟩, ⟨hy, hr⟩, hdd2, hml⟩ := hM
  dsimp only at hr
  subst hr
  intro hF H locs lsA hP hD hS hl
  have hG : GoodIn Tg (.code y cb ml none :: Tg) := by
    intro w hw
    refine Tg_good w ?_
    rcases List.mem_cons.mp hw with rfl | h
    · exact w3'
    · exact h
  have hFc := free_of hF (D_right hD) hS
  refine va_callv (va_runI (As := []) (rest := st) (g := F0 (gm G) pc lsA (.ref q :: st)) ⟨hF.x, hF.b, hF.ml, hF.ow, hF.ts⟩ (con H.size) (cwI 0 hF.ts hG rfl rfl rfl (hF.ts _ w2') (hF.ts _ hl0) (hF.ts _ w1') hy hdd2 ⟨Nat.le_trans hdd hF.R.1, by have := hF.R.2; dsimp only at hml; show 8 + (ml + 11) + 60 * d' ≤ _; omega⟩)
    ⟨Pmx_blind, pre_of hF (P_right hP) (D_right hD)⟩ rfl rfl hl.1 rfl (lv_room hw) hd ⟨h1, h2⟩) hS (fun q _ h => hFc q h) hFc (fun u t H1 locs1 ht hvm _ hB hz1 hk1 hS1 => ?_)
  obtain ⟨hP1, hD1⟩ := hB
  rw [ht] at hP1
  obtain ⟨a1, a2⟩ := mk_apart (P_left hP) (D_apart hD) hk1 hD1
  exact kk u hF H1 locs1 lsA (a1.app hP1) ((D_left hD).app (hD1.weaken (fun _ q _ h => hFc q.1 h)) a2) hS1 hl
theorem I_callIN {idx q ci d' mc ms : Nat} {host : String} {M' : Mx} {z : List Value} {w1 : (Nat → Nat) → va_W} (hd : decode M.2.1 pc = .ok (.invokespecial idx, 3)) (hM : MadeOK M') (hl0 : Cond.methodLinkNest M.1.cls idx M'.1 host ∈ Ng) (hw : (st.map fun v => v.category).sum ≤ 8) (hdd : d' + 1 ≤ d) (h1 : k + mc ≤ (gR G).cells) (h2 : n + ms ≤ (gR G).slots)
    (con : Mk B d' M' [.ref q] [(q, .inr (ci, z))] w1 mc ms) (kk : ∀ a, I B G d M (pc + 3) ls st (k + mc) (n + ms) (ws ++ w1 a)) : I B G d M pc ls (.ref q :: st) k n (ws ++ [(q, .inr (ci, z))]) := by
  obtain ⟨y, cb, ml, r⟩ := M'
  obtain ⟨⟨w1', w2', w3'⟩, ⟨hy, hr⟩, hdd2, hml⟩ := hM
  dsimp only at hr
  subst hr
  intro hF H locs lsA hP hD hS hl
  have hG : GoodIn Tg (.code y cb ml none :: Tg) := by
    intro w hw
    refine Tg_good w ?_
    rcases List.mem_cons.mp hw with rfl | h
    · exact w3'
    · exact h
  have hFc := free_of hF (D_right hD) hS
  refine va_callv (va_runIN (As := []) (rest := st) (g := F0 (gm G) pc lsA (.ref q :: st)) ⟨hF.x, hF.b, hF.ml, hF.ow, hF.ts⟩ (con H.size) ⟨va_cnB 0 hF.ts hG rfl rfl rfl (hF.N _ hl0) (hF.ts _ w2') hdd2 ⟨Nat.le_trans hdd hF.R.1, by have := hF.R.2; dsimp only at hml; show 8 + (ml + 11) + 60 * d' ≤ _; omega⟩, hy, hF.ts _ w1'⟩
    ⟨Pmx_blind, pre_of hF (P_right hP) (D_right hD)⟩ rfl rfl hl.1 rfl (lv_room hw) hd ⟨h1, h2⟩) hS (fun q _ h => hFc q h) hFc (fun u t H1 locs1 ht hvm _ hB hz1 hk1 hS1 => ?_)
  obtain ⟨hP1, hD1⟩ := hB
  rw [ht] at hP1
  obtain ⟨a1, a2⟩ := mk_apart (P_left hP) (D_apart hD) hk1 hD1
  exact kk u hF H1 locs1 lsA (a1.app hP1) ((D_left hD).app (hD1.weaken (fun _ q _ h => hFc q.1 h)) a2) hS1 hl
/-- a method on the own cell and the first one behind it, with nothing made -/
theorem I_callV2 {idx q ci d' N : Nat} {M' : Mx} {As stk : List Value} {fs : List Value} {y : Nat × va_E} {tl : va_W} {qc : vw_C} {w1 : (Nat → Nat) → va_W} (hd : decode M.2.1 pc = .ok (.invokevirtual idx, 3)) (hc : vwCl[ci]? = some qc) (hM : VirtOK M' qc.1 N) (hl0 : Cond.methodLink M.1.cls idx M'.1 ∈ Tg) (hn : As.length = N) (hst : stk = As.reverse ++ .ref q :: st) (hw : (st.map fun v => v.category).sum ≤ 8) (hdd : d' + 1 ≤ d) (h1 : k ≤ (gR G).cells) (h2 : n ≤ (gR G).slots)
    (con : Mk B d' M' (.ref q :: As) [(q, .inr (ci, fs)), y] w1 0 0) (kk : ∀ a, I B G d M (pc + 3) ls st k n (w1 a ++ tl)) : I B G d M pc ls stk k n ((q, .inr (ci, fs)) :: y :: tl) := by
  intro hF H locs lsA hP hD hS hl
  obtain ⟨⟨w1', w2', w3', w4'⟩, hdd2, hml⟩ := hM
  have hP : va_P B.2.1 vwCl ([(q, .inr (ci, fs)), y] ++ tl) H := hP
  have hD : va_D (gA G) ([(q, .inr (ci, fs)), y] ++ tl) := hD
  have hG : GoodIn Tg (wsV M.1.cls idx qc.1 M'.1 (.code M'.1 M'.2.1 M'.2.2.1 M'.2.2.2 :: Tg)) := by
    intro w hw
    refine Tg_good w ?_
    simp only [wsV, List.mem_append, List.mem_cons, List.not_mem_nil, or_false] at hw
    rcases hw with (rfl | rfl | rfl | rfl) | rfl | h
    · exact hl0
    · exact w1'
    · exact w2'
    · exact w3'
    · exact w4'
    · exact h
  have hFc := free_of hF (D_left hD) hS
  refine va_callv (va_runV (As := As) (rest := st) (g := F0 (gm G) pc lsA stk) ⟨hF.x, hF.b, hF.ml, hF.ow, hF.ts⟩ (con H.size) (cwV N hF.ts hG rfl rfl rfl hdd2 ⟨Nat.le_trans hdd hF.R.1, by have := hF.R.2; show 8 + (M'.2.2.1 + 11) + 60 * d' ≤ _; omega⟩)
    ⟨Pmx_blind, va_recv (q0 := 0) hF.K hP hc rfl, pre_of hF (P_left hP) (D_left hD)⟩ rfl hn hl.1 hst (lv_room hw) hd ⟨h1, h2⟩) hS (fun q _ h => hFc q h) hFc (fun u t H1 locs1 ht hvm _ hB hz1 hk1 hS1 => ?_)
  obtain ⟨hP1, hD1⟩ := hB
  rw [ht] at hP1
  obtain ⟨a1, a2⟩ := mk_apart (P_right hP) (fun i j x y hx hy e => D_apart hD j i y x hy hx e.symm) hk1 hD1
  exact kk u hF H1 locs1 lsA (hP1.app a1) ((hD1.weaken (fun _ q _ h => hFc q.1 h)).app (D_right hD) (fun i j x y hx hy e => a2 j i y x hy hx e.symm)) hS1 hl
end IC

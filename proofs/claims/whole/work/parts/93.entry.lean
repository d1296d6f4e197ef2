/-! the law's entry: what the tables and the Statement's premises give (wip/whole/mkentry.py) -/
section IS
variable {B : Bx} {G : Gx} {d : Nat} {M : Mx} {pc : Nat} {ls : List (Nat × Value)} {st : List Value} {k n : Nat} {ws : va_W}
theorem I_astore_n {k0 : Fin 4} {i r : Nat} (hd : decode M.2.1 pc = .ok (.astore_n k0, 1)) (hi : (k0 : Nat) = i) {ls' : List (Nat × Value)} (hn : i < M.2.2.1) (hl0 : (i, Value.ref r) :: ls.filter (fun q => !(q.1 == i) && !(q.1 + 1 == i && q.2.category == 2)) = ls') (kk : I B G d M (pc + 1) ls' st k n ws) : I B G d M pc ls (.ref r :: st) k n ws :=
  fun hF H locs lsA hP hD hS hl => lv_astore_n hF.x hF.b hd hi hl hn hl0 (fun lsB hlB => kk hF H locs lsB hP hD hS hlB)
theorem I_istore {i : Nat} {x : Int32} (hd : decode M.2.1 pc = .ok (.istore i, 2)) {ls' : List (Nat × Value)} (hn : i < M.2.2.1) (hl0 : (i, Value.int x) :: ls.filter (fun q => !(q.1 == i) && !(q.1 + 1 == i && q.2.category == 2)) = ls') (kk : I B G d M (pc + 2) ls' st k n ws) : I B G d M pc ls (.int x :: st) k n ws :=
  fun hF H locs lsA hP hD hS hl => lv_istore hF.x hF.b hd hl hn hl0 (fun lsB hlB => kk hF H locs lsB hP hD hS hlB)
theorem I_sub {ls' : List (Nat × Value)} (ks : List Nat) (hl : lv_pick ls ks = ls') (kk : I B G d M pc ls' st k n ws) : I B G d M pc ls st k n ws :=
  fun hF H locs lsA hP hD hS h => kk hF H locs lsA hP hD hS (lv_sub h ks hl)
end IS
def stOw : List (String × Nat) := [("VotingFloor$Rule", 88), ("VotingFloorModel", 193), ("VotingFloorModel", 335), ("VotingFloorModel", 234), ("VotingFloorModel", 236), ("VotingFloorModel", 238), ("VotingFloorModel", 333), ("VotingFloor", 143), ("VotingFloor", 171)]
def stTm (i : Nat) : Term := .string (stOw.getD i ("", 0)).1 (stOw.getD i ("", 0)).2
def gvF : List Cond := flatC (Jvm.Cond.and given_1 narrow_1)
theorem sg_ex : ∀ i, i < 9 → Cond.exactly (stTm i) "java/lang/String" ∈ gvF := by decide +kernel
theorem sg_co : ∀ i, i < 9 → Cond.eq (.field (stTm i) "java/lang/String" "coder" "B") (.int 0) ∈ gvF := by decide +kernel
theorem sg_ar : ∀ i, i < 9 → Cond.arrayOf (.field (stTm i) "java/lang/String" "value" "[B") .byte ∈ gvF := by decide +kernel
theorem sg_le : ∀ i, i < 9 → Cond.eq (.length (.field (stTm i) "java/lang/String" "value" "[B")) (.int (Int32.ofNat (strLen.getD i 0))) ∈ gvF := by decide +kernel
theorem sg_el : ∀ i, i < 9 → ∀ j, j < strLen.getD i 0 → Cond.eq (.elem (.field (stTm i) "java/lang/String" "value" "[B") (.int (Int32.ofNat j))) (.int ((strByt.getD i []).getD j 0)) ∈ gvF := by decide +kernel
theorem sg_ne : ∀ i, i < 9 → ∀ j, j < 9 → i ≠ j → (Cond.not (Cond.eq (stTm i) (stTm j)) ∈ gvF ∨ Cond.not (Cond.eq (stTm j) (stTm i)) ∈ gvF) := by decide +kernel
theorem sg_st : Cond.eq (stTm 0) (.string "VotingFloorModel" 229) ∈ gvF ∧ Cond.eq (.static "java/lang/String" "COMPACT_STRINGS" "Z") (.int 1) ∈ gvF ∧ Cond.isRef (.static "jdk/internal/util/Preconditions" "SIOOBE_FORMATTER" "Ljava/util/function/BiFunction;") ∈ gvF ∧ Cond.isRef (.static Bundle.tN "UNASSIGNED_STACK" Bundle.steD) ∈ gvF ∧ Cond.isRef (.static Bundle.tN "SUPPRESSED_SENTINEL" Bundle.listD) ∈ gvF := by decide +kernel
theorem sg_len : ∀ i, i < 9 → strLen.getD i 0 < 2 ^ 31 := by decide +kernel
section EN
variable {args : Array Value} {s : State} {A : Nat → Prop}
theorem entry_S (hg : (Jvm.Cond.and given_1 narrow_1).before args s = true) (hA : ∀ a : Nat, a < s.heap.size → ¬ A a) : ∃ adK adV : Nat → Nat, vk_S strN strLen strByt adK adV A s s.heap ∧ ∀ i : Nat, i < 9 → (stTm i).eval args s none [] s = some (.ref (adK i)) := by
  have hs : ∀ c ∈ gvF, c.before args s = true := flat_of_before _ hg
  exact vk_Sof (tm := stTm) (N := 9) sg_len (fun i hi => hs _ (sg_ex i hi)) (fun i hi => hs _ (sg_co i hi)) (fun i hi => hs _ (sg_ar i hi)) (fun i hi => hs _ (sg_le i hi)) (fun i hi j hj => hs _ (sg_el i hi j hj)) (fun i j hi hj hij => (sg_ne i hi j hj hij).imp (fun h => hs _ h) (fun h => hs _ h)) hA
theorem entry_L {E : Ex} (hts : ∀ w ∈ lw_tbl, w.before args s = true) (hg : (Jvm.Cond.and given_1 narrow_1).before args s = true) (he : ∀ i : Nat, i < 9 → (stTm i).eval args s none [] s = some (.ref (E.2.2.2.2.1 i))) : Lk E s := by
  have hs : ∀ c ∈ gvF, c.before args s = true := flat_of_before _ hg
  intro q hq
  simp only [strLit, List.mem_cons, List.not_mem_nil, or_false] at hq
  rcases hq with rfl | rfl | rfl | rfl | rfl | rfl | rfl | rfl | rfl | rfl
  · exact vk_R.of (A := args) (hts _ (in_t2 (List.mem_of_getElem? (i := 173) (by decide +kernel)))) (he 0 (by decide))
  · exact vk_R.of (A := args) (hts _ (in_t5 (List.mem_of_getElem? (i := 115) (by decide +kernel)))) (he 7 (by decide))
  · exact vk_R.of (A := args) (hts _ (in_t5 (List.mem_of_getElem? (i := 142) (by decide +kernel)))) (he 8 (by decide))
  · exact vk_R.of (A := args) (hts _ (in_t6 (List.mem_of_getElem? (i := 84) (by decide +kernel)))) (he 1 (by decide))
  · exact vk_R.of (A := args) (hts _ (in_t6 (List.mem_of_getElem? (i := 155) (by decide +kernel)))) (va_eqR (hs _ sg_st.1) (he 0 (by decide)))
  · exact vk_R.of (A := args) (hts _ (in_t6 (List.mem_of_getElem? (i := 156) (by decide +kernel)))) (he 3 (by decide))
  · exact vk_R.of (A := args) (hts _ (in_t6 (List.mem_of_getElem? (i := 157) (by decide +kernel)))) (he 4 (by decide))
  · exact vk_R.of (A := args) (hts _ (in_t6 (List.mem_of_getElem? (i := 158) (by decide +kernel)))) (he 5 (by decide))
  · exact vk_R.of (A := args) (hts _ (in_t7 (List.mem_of_getElem? (i := 72) (by decide +kernel)))) (he 6 (by decide))
  · exact vk_R.of (A := args) (hts _ (in_t7 (List.mem_of_getElem? (i := 73) (by decide +kernel)))) (he 2 (by decide))
theorem entry_Z {E : Ex} (hts : ∀ w ∈ lw_tbl, w.before args s = true) (hg : (Jvm.Cond.and given_1 narrow_1).before args s = true) (hA : ∀ a : Nat, a < s.heap.size → ¬ A a) (h0 : vk_S strN strLen strByt E.2.2.2.2.1 E.2.2.2.2.2 A s s.heap) (hl : E.1.stackTraces = false) : Sk E A s s.heap := by
  have hs : ∀ c ∈ gvF, c.before args s = true := flat_of_before _ hg
  exact ⟨h0, va_Zof (hts _ (in_t2 (List.mem_of_getElem? (i := 187) (by decide +kernel)))) (hts _ (in_t1 (List.mem_of_getElem? (i := 15) (by decide +kernel)))) (va_eqi (hs _ sg_st.2.1)) hA,
    vx_Zqof (hts _ (in_t5 (List.mem_of_getElem? (i := 103) (by decide +kernel)))) (hts _ (in_t1 (List.mem_of_getElem? (i := 20) (by decide +kernel)))) (hs _ sg_st.2.2.2.1) hA,
    vx_Zqof (hts _ (in_t5 (List.mem_of_getElem? (i := 105) (by decide +kernel)))) (hts _ (in_t1 (List.mem_of_getElem? (i := 20) (by decide +kernel)))) (hs _ sg_st.2.2.2.2) hA,
    va_Zqof (hts _ (in_t2 (List.mem_of_getElem? (i := 228) (by decide +kernel)))) (hts _ (in_t1 (List.mem_of_getElem? (i := 17) (by decide +kernel)))) (hs _ sg_st.2.2.1) hA, hl⟩
theorem entry_N (hts : ∀ w ∈ lw_tbl, w.before args s = true) : Nk s := by
  intro w hw
  have h1 := List.mem_filter.mp hw
  have h2 := hts w h1.1
  have h3 := h1.2
  cases w <;> first | (simp [isNest] at h3; done) | exact va_tabs rfl rfl h2
theorem entry_V (hts : ∀ w ∈ lw_tbl, w.before args s = true) : Vk s := fun w hw => va_tabs (xs_face w hw).2 rfl (hts w (xs_B w hw))
theorem entry_A {ty : FieldType} (hw : Cond.arrayClass ty ∈ Tg) (hra : ∀ (U : State) (c : ClassId), U.vm.findClass ("[" ++ ty.toString) = some c → va_RA U c ty) (hT : ∀ w ∈ Tg, w.before args s = true) : ∃ c : ClassId, ArrOfT s c ty ∧ va_RA s c ty := by
  obtain ⟨c, kA, comp, h1, h2, h3⟩ := Cond.arrayClass_spec (hT _ hw)
  exact ⟨c, fun n z => ⟨fun k h => (by cases h), kA, h2, comp, h3⟩, hra s c h1⟩
theorem entry_K (hT : ∀ w ∈ Tg, w.before args s = true) : ∃ (D : va_G) (ac : Nat → ClassId), ∀ l : Launch, va_K D vwCl (tyB (l, D, ac)) s := by
  obtain ⟨c0, g0⟩ := entry_A (ty := .char) arr_char (fun _ _ h => h) hT
  obtain ⟨c1, g1⟩ := entry_A (ty := .int) arr_int (fun _ _ h => h) hT
  obtain ⟨c2, g2⟩ := entry_A (ty := .long) arr_long (fun _ _ h => h) hT
  obtain ⟨c3, g3⟩ := entry_A (ty := .boolean) arr_boolean (fun _ _ h => h) hT
  have key : ∀ c : Nat, ∃ r : ClassId × (Nat → Nat), ∀ q, vwCl[c]? = some q → u_Kn s q.1 q.2.1 q.2.2 r.1 r.2 := by
    intro c
    match c with
    | 0 =>
      obtain ⟨cC, iS, h⟩ := u_known hT iTX0 (hT _ insX0)
      exact ⟨(cC, iS), fun q hq => by cases hq; exact h⟩
    | 1 =>
      obtain ⟨cC, iS, h⟩ := u_known hT iTX1 (hT _ insX1)
      exact ⟨(cC, iS), fun q hq => by cases hq; exact h⟩
    | 2 =>
      obtain ⟨cC, iS, h⟩ := u_known hT iTX2 (hT _ insX2)
      exact ⟨(cC, iS), fun q hq => by cases hq; exact h⟩
    | 3 =>
      obtain ⟨cC, iS, h⟩ := u_known hT iTX3 (hT _ insX3)
      exact ⟨(cC, iS), fun q hq => by cases hq; exact h⟩
    | 4 =>
      obtain ⟨cC, iS, h⟩ := u_known hT iTX4 (hT _ insX4)
      exact ⟨(cC, iS), fun q hq => by cases hq; exact h⟩
    | 5 =>
      obtain ⟨cC, iS, h⟩ := u_known hT iTX5 (hT _ insX5)
      exact ⟨(cC, iS), fun q hq => by cases hq; exact h⟩
    | 6 =>
      obtain ⟨cC, iS, h⟩ := u_known hT iTX6 (hT _ insX6)
      exact ⟨(cC, iS), fun q hq => by cases hq; exact h⟩
    | 7 =>
      obtain ⟨cC, iS, h⟩ := u_known hT iTX7 (hT _ insX7)
      exact ⟨(cC, iS), fun q hq => by cases hq; exact h⟩
    | 8 =>
      obtain ⟨cC, iS, h⟩ := u_known hT iTX8 (hT _ insX8)
      exact ⟨(cC, iS), fun q hq => by cases hq; exact h⟩
    | 9 =>
      obtain ⟨cC, iS, h⟩ := u_known hT iTX9 (hT _ insX9)
      exact ⟨(cC, iS), fun q hq => by cases hq; exact h⟩
    | 10 =>
      obtain ⟨cC, iS, h⟩ := u_known hT iTX10 (hT _ insX10)
      exact ⟨(cC, iS), fun q hq => by cases hq; exact h⟩
    | 11 =>
      obtain ⟨cC, iS, h⟩ := u_known hT iTX11 (hT _ insX11)
      exact ⟨(cC, iS), fun q hq => by cases hq; exact h⟩
    | 12 =>
      obtain ⟨cC, iS, h⟩ := u_known hT iTX12 (hT _ insX12)
      exact ⟨(cC, iS), fun q hq => by cases hq; exact h⟩
    | c + 13 => exact ⟨(c0, fun _ => 0), fun q hq => by simp at hq⟩
  obtain ⟨f, hf⟩ := Classical.axiomOfChoice key
  refine ⟨(fun c => (f c).1, fun c => (f c).2), fun t => if t = 0 then c0 else if t = 1 then c1 else if t = 2 then c2 else c3, fun l => ⟨fun c q hq => hf c q hq, fun k q hq => ?_⟩⟩
  match k, hq with
  | 0, hq => cases hq; exact g0
  | 1, hq => cases hq; exact g1
  | 2, hq => cases hq; exact g2
  | 3, hq => cases hq; exact g3
  | k + 4, hq => simp [tyB] at hq
end EN
theorem law_make {B : Bx} {G : Gx} {b : Nat} (hR : gR G = room_1) (fin : ∀ (q0 : Nat) (a : Nat → Nat) (q1 : Nat) (a' : Nat → Nat) (q2 : Nat), I B G 130 mL_law 23 [(0, .ref b), (1, .ref q0), (2, .ref q1), (3, .ref q2), (4, .int 0)] [] 79 4796 ((([] ++ wX11 B q0 a) ++ wX12 B q1 a') ++ [(q2, .inl (B.2.2 2, 1, .inr (.inl (fun _ => 0))))])) : I B G 130 mL_law 0 (lv_args 0 [.ref b]) [] 0 0 [] := by
  refine I_new (ci := 11) (fs := zX11) (dk okLw_0 0 rfl) rfl iTX11 tyX11 tyX11_ok clL_8 insX11 iniX11 dfX11 (by rw [hR]; exact Nat.le_of_ble_eq_true rfl) (by rw [hR]; exact Nat.le_of_ble_eq_true rfl) (fun q0 => ?_)
  refine I_dup (dk okLw_0 1 rfl) rfl ?_
  refine I_callI (dk okLw_0 2 rfl) mdX11 liL_19 (Nat.le_of_ble_eq_true rfl) (by decide) (by rw [hR]; exact Nat.le_of_ble_eq_true rfl) (by rw [hR]; exact Nat.le_of_ble_eq_true rfl) (mk_X11 B q0) (fun a => ?_)
  refine I_astore_n (r := q0) (ls' := [(1, .ref q0), (0, .ref b)]) (dk okLw_0 3 rfl) rfl (by decide) rfl ?_
  refine I_new (ci := 12) (fs := zX12) (dk okLw_0 4 rfl) rfl iTX12 tyX12 tyX12_ok clL_20 insX12 iniX12 dfX12 (by rw [hR]; exact Nat.le_of_ble_eq_true rfl) (by rw [hR]; exact Nat.le_of_ble_eq_true rfl) (fun q1 => ?_)
  refine I_dup (dk okLw_0 5 rfl) rfl ?_
  refine I_callI (dk okLw_0 6 rfl) mdX12 liL_22 (Nat.le_of_ble_eq_true rfl) (by decide) (by rw [hR]; exact Nat.le_of_ble_eq_true rfl) (by rw [hR]; exact Nat.le_of_ble_eq_true rfl) (mk_X12 B q1) (fun a' => ?_)
  refine I_astore_n (r := q1) (ls' := [(2, .ref q1), (1, .ref q0), (0, .ref b)]) (dk okLw_0 7 rfl) rfl (by decide) rfl ?_
  refine I_iconst (v := 1) (dk okLw_0 8 rfl) (by decide) ?_
  refine I_newa (t := 2) (N := 1) (ty := .long) (a0 := (1, .inr (.inl (fun _ => 0)))) (dk okLw_0 9 rfl) arr_long rfl rfl (fun _ _ h => h) (fun _ => rfl) (by decide) (by decide) (by decide) (by rw [hR]; exact Nat.le_of_ble_eq_true rfl) (by rw [hR]; exact Nat.le_of_ble_eq_true rfl) (fun q2 => ?_)
  refine I_astore_n (r := q2) (ls' := [(3, .ref q2), (2, .ref q1), (1, .ref q0), (0, .ref b)]) (dk okLw_0 10 rfl) rfl (by decide) rfl ?_
  refine I_iconst (v := 0) (dk okLw_0 11 rfl) (by decide) ?_
  refine I_istore (x := 0) (ls' := [(4, .int 0), (3, .ref q2), (2, .ref q1), (1, .ref q0), (0, .ref b)]) (dk okLw_0 12 rfl) (by decide) rfl ?_
  exact I_sub (ls' := [(0, .ref b), (1, .ref q0), (2, .ref q1), (3, .ref q2), (4, .int 0)]) [4, 3, 2, 1, 0] rfl (fin q0 a q1 a' q2)

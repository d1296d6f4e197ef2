section JM
variable {E : Ex} {G : Gx} {d : Nat} {M : Mx} {Q : Option Value → Mm → Prop} {pc : Nat} {ls : List (Nat × Value)} {st : List Value} {μ : Mm}
theorem J_ldc_w {index : Nat} {v : Int32} (hd : decode M.2.1 pc = .ok (.ldc_w index, 3)) (hc : Cond.constant M.1.cls index v ∈ Tg) (k : J E G d M Q (pc + 3) ls (.int v :: st) μ) : J E G d M Q pc ls st μ :=
  fun hF H locs lsA hP hS hl => lv_ldcw hF.1 hF.2.1 hF.2.2.2.2.2.1 (hF.2.2.2.2.2.2.1 _ hc) hd (k hF H locs lsA hP hS hl)
theorem J_nm (k : ∀ μ1 : Mm, μ1 = μ → J E G d M Q pc ls st μ1) : J E G d M Q pc ls st μ := k μ rfl
theorem J_at {x v : Int32} (h : x = v) (k : J E G d M Q pc ls (.int v :: st) μ) : J E G d M Q pc ls (.int x :: st) μ := h ▸ k
end JM
theorem RuleAt_pile {b : Nat} (h : RuleAt b) : PileAt (b + 3) := ⟨h.2.2.2.1, h.2.2.2.2⟩
theorem kcJ6_265 : Cond.constant RJ6 265 (1431655765) ∈ Tg := in_Tg (in_t3 (List.mem_of_getElem? (i := 102) (by decide +kernel))) rfl
theorem kcJ6_266 : Cond.constant RJ6 266 (858993459) ∈ Tg := in_Tg (in_t3 (List.mem_of_getElem? (i := 103) (by decide +kernel))) rfl
theorem kcJ6_267 : Cond.constant RJ6 267 (252645135) ∈ Tg := in_Tg (in_t3 (List.mem_of_getElem? (i := 104) (by decide +kernel))) rfl
theorem kcJ6_264 : Cond.constant RJ6 264 (65536) ∈ Tg := in_Tg (in_t8 (List.mem_of_getElem? (i := 4) (by decide +kernel))) rfl

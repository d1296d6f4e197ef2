/-! calls that may throw, and the law's two methods that catch -/
def gup (G : Gx) : Gx := (gp G, ge G, gR G, gs G, gm G, ga G, gb G, gM G, gc G, gA G, gk G + 1, gl G + 6, gZ G)
section JY
variable {E : Ex} {G : Gx} {d : Nat} {M : Mx} {Q : Option Value → Mm → Prop} {pc : Nat} {ls : List (Nat × Value)} {st : List Value} {μ : Mm} {X : Prop}
theorem Fx_up (hF : Fx E d M Q G) (h1 : gk G + 1 ≤ (gR G).cells) (h2 : gl G + 6 ≤ (gR G).slots) (hz : ∀ t : State, MQ (gb G) (Qcx E (gA G) Q) (ga G) (gs G) (gk G + 1) (gl G + 6) (gA G) t → gZ G t) : Fx E d M Q (gup G) := by
  obtain ⟨f1, f2, f3, f4, f5, f6, f7, f8, f9, f10, f11, ⟨r1, r2, r3, r4⟩, f13⟩ := hF
  exact ⟨f1, f2, f3, f4, f5, f6, f7, f8, f9, f10, f11, ⟨r1, r2, h1, h2⟩, hz⟩
theorem Pcy_blind {vs : List Value} {sz : Nat} : FrameBlind (Pcy E vs μ sz) := fun a U g mk q => ⟨Con_blind a U g mk q.1, Vk.same (s := U) rfl q.2⟩
theorem wld_in (hF : Fx E d M Q G) {H : Heap} {locs : List Loc} (hS : va_S (gA G) (gs G).heap H locs) : ∀ q, va_A (wld E μ) H.size q → gA G q := by
  have hD : va_D (gA G) (wld E μ) := wld_D hF.2.2.2.2.2.2.2.2.2.1
  intro q h
  rcases h with ⟨k, e, h⟩ | h
  · exact hD.2 k (q, e) h
  · exact hF.2.2.2.2.2.2.2.2.1 q (Nat.le_trans hS.1 h)
theorem va_S.on {A B : Nat → Prop} {H0 H H1 : Heap} {locs L : List Loc} (hS : va_S A H0 H locs) (hB : ∀ q, B q → A q) (hz : H.size ≤ H1.size) (hk : ∀ q : Nat, q < H.size → ¬ B q → H1[q]? = H[q]?) (hL : ∀ z ∈ L, B z.base) : va_S A H0 H1 (locs ++ L) :=
  ⟨Nat.le_trans hS.1 hz, fun q h1 h2 => by rw [hk q (Nat.lt_of_lt_of_le h1 hS.1) (fun z => h2 (hB q z))]; exact hS.2.1 q h1 h2, fun q hq => by
    rcases List.mem_append.mp hq with h | h
    · exact hS.2.2 q h
    · exact hB _ (hL q h)⟩
theorem J_callX {k0 ci idx n d' : Nat} {ks : List (Option Nat)} {M' : Mx} {As : List Value} {q : vw_C} {stk : List Value} (hd : decode M.2.1 pc = .ok (.invokevirtual idx, 3)) (hk : dscL[k0]? = some (.inl (ci, ks))) (hc : vwCl[ci]? = some q) (hM : VirtOK M' q.1 n) (hl0 : Cond.methodLink M.1.cls idx M'.1 ∈ Tg)
    (hn : As.length = n) (hst : stk = As.reverse ++ rf E k0 :: st) (hw : (st.map fun v => v.category).sum ≤ 8) (hdd : d' + 1 ≤ d)
    (hvk : Vk (gs G)) (h1 : gk G + 1 ≤ (gR G).cells) (h2 : gl G + 6 ≤ (gR G).slots) (hz : ∀ t : State, MQ (gb G) (Qcx E (gA G) Q) (ga G) (gs G) (gk G + 1) (gl G + 6) (gA G) t → gZ G t)
    (con : ConX E d' M' (rf E k0 :: As) μ (fun v μ' => J E (gup G) d M Q (pc + 3) ls (v.toList ++ st) μ') X)
    (hx : X → Fx E d M Q (gup G) → ∀ (H : Heap) (locs : List Loc) (lsA : Array Slot) (q9 : Addr) (ce : Cell), va_P E.2.1 vwCl (wld E μ) H → va_S (gA G) (gs G).heap H locs → lv_has lsA M.2.2.1 ls → H[q9]? = some ce → ce.vm = .none → (gs G).vm.findClass xsC = some ce.cls →
      vx_W (gp G) E.1 (ge G) (gR G) (gs G) (gm G) (ga G) (gb G) (gM G) (gc G) H locs (gk G + 1) (gl G + 6) (gZ G) (F0 (gm G) pc lsA st) q9) : J E G d M Q pc ls stk μ := by
  intro hF H locs lsA hP hS hl
  obtain ⟨⟨w1, w2, w3, w4⟩, hdd2, hml⟩ := hM
  have hG : GoodIn Tg (wsV M.1.cls idx q.1 M'.1 (.code M'.1 M'.2.1 M'.2.2.1 M'.2.2.2 :: Tg)) := by
    intro w hw
    refine Tg_good w ?_
    simp only [wsV, List.mem_append, List.mem_cons, List.not_mem_nil, or_false] at hw
    rcases hw with (rfl | rfl | rfl | rfl) | rfl | h
    · exact hl0
    · exact w1
    · exact w2
    · exact w3
    · exact w4
    · exact h
  have run := vx_runV (As := As) (rest := st) (g := F0 (gm G) pc lsA stk) (cells := gk G) (slots := gl G) (locs := locs) (below := gb G) (e := ge G) (meth := gM G) ⟨hF.1, hF.2.1, hF.2.2.1, hF.2.2.2.2.2.1, hF.2.2.2.2.2.2.1⟩ (con H.size) (cwV n hF.2.2.2.2.2.2.1 hG rfl rfl rfl hdd2 ⟨Nat.le_trans hdd hF.2.2.2.2.2.2.2.2.2.2.2.1.1, by have := hF.2.2.2.2.2.2.2.2.2.2.2.1.2.1; show 8 + (M'.2.2.1 + 11) + 60 * d' ≤ _; omega⟩)
    ⟨Pcy_blind, va_recv hF.2.2.2.2.2.2.2.1 hP hc (wld_at hk), fun U hU hW => ⟨Con_pre hP hF.2.2.2.2.2.2.2.1 (wld_D hF.2.2.2.2.2.2.2.2.2.1) hF.2.2.2.2.2.2.2.2.2.2.1 hS hF.2.2.2.2.2.2.2.2.1 U hU hW, Vk.warm hW hvk⟩⟩ rfl hn hl.1 hst (lv_room hw) hd ⟨h1, h2⟩
  have hA := wld_in (μ := μ) hF hS
  have hF' := Fx_up hF h1 h2 hz
  intro T hT X9
  rcases run T hT X9 with ⟨v, st₀, t, T', L, h0, X', hL, e1, e2, ⟨⟨v', μ', hv, hq, hP'⟩, hz1, hk'⟩, stp⟩ | ⟨q9, st₀, t, T', L, En, ce, h0, X', hL, e1, e2, ⟨u, hpx, ⟨hEn, hPx⟩, hz1, hk'⟩, hce, hcv, hcl, stp⟩
  · cases hv
    rw [h0] at hz1 hk'
    obtain ⟨t2, a1, b1⟩ := hq hF' T'.heap (locs ++ L) lsA (by rw [e1]; exact hP') (hS.on hA (by rw [e1]; exact hz1) (fun q h3 h4 => by rw [e1]; exact hk' q h3 h4) hL) hl T' rfl X'
    exact ⟨t2, stp t2 a1, b1⟩
  · subst hEn
    rw [h0] at hz1 hk'
    obtain ⟨t2, a1, b1⟩ := hx hpx hF' T'.heap (locs ++ L) lsA q9 ce (by rw [e1]; exact hPx) (hS.on hA (by rw [e1]; exact hz1) (fun q h3 h4 => by rw [e1]; exact hk' q h3 h4) hL) hl (by rw [e1]; exact hce) hcv hcl T' rfl X'
    exact ⟨t2, stp.trans a1, b1⟩
def ConL (E : Ex) (d : Nat) (M : Mx) (hh : List (Nat × Nat × Nat × Nat)) (vs : List Value) (μ : Mm) (Q : Option Value → Mm → Prop) : Prop :=
  ∀ sz : Nat, Met E.1 M.1 (.codeWith M.1 M.2.1 M.2.2.1 M.2.2.2 hh :: Tg) (rmx d) (Pcy E vs μ sz) (Qcx E (va_A (wld E μ) sz) Q) 1 6 (va_A (wld E μ) sz)
def GL (E : Ex) (Q : Option Value → Mm → Prop) (hh : List (Nat × Nat × Nat × Nat)) (G : Gx) : Prop :=
  gk G = 0 ∧ gl G = 0 ∧ 1 ≤ (gR G).cells ∧ 6 ≤ (gR G).slots ∧ Vk (gs G) ∧ (gc G).exceptionTable.toList = tableOf hh ∧ ∀ t, vx_MQ (gb G) (Qcx E (gA G) Q) (fun _ _ _ => False) (ga G) (gs G) 1 6 (gA G) t → gZ G t
theorem ConL_J {hh : List (Nat × Nat × Nat × Nat)} {vs : List Value} (hy : plainName M.1.cls = true) (hn : (lg_sl vs).length ≤ M.2.2.1) (h : ∀ G, GL E Q hh G → J E G d M Q 0 (lv_args 0 vs) [] μ) : ConL E d M hh vs μ Q := by
  intro sz
  have key : vx_Met E.1 M.1 (.codeWith M.1 M.2.1 M.2.2.1 M.2.2.2 hh :: Tg) (rmx d) (Pcy E vs μ sz) (Qcx E (va_A (wld E μ) sz) Q) (fun _ _ _ => False) 1 6 (va_A (wld E μ) sz) := by
    refine vx_ofWH (cc := M.2.1) (maxL := M.2.2.1) (ret := M.2.2.2) (hh := hh) hy rfl ?_
    intro p e s m args below meth c s₁ B hml hv
    obtain ⟨⟨rfl, hsz, hP, hK, hD0, hNk⟩, hVk⟩ := hv
    subst hsz
    have hts := atoms_spec (ws := .codeWith M.1 M.2.1 M.2.2.1 M.2.2.2 hh :: Tg) B.pre
    have htab := vx_table (x := M.1) B (hts _ List.mem_cons_self)
    have hown : s.vm.findClass M.1.cls = some m.cls := findClass_of_methodNamed B.named
    have hD := hD0.self (sz := s.heap.size)
    rw [lg_entry_eq]
    exact h (p, e, rmx d, s, m, vs.toArray, below, meth, c, va_A (wld E μ) s.heap.size, 0, 0, vx_MQ below (Qcx E (va_A (wld E μ) s.heap.size) Q) (fun _ _ _ => False) vs.toArray s 1 6 (va_A (wld E μ) s.heap.size))
      ⟨rfl, rfl, Nat.le_refl _, Nat.le_refl _, hVk, htab, fun _ h => h⟩
      ⟨B.exec, B.bytes, hml, B.returns, B.notSynchronized, hown, fun w hw => hts w (List.mem_cons_of_mem _ hw), hK, fun q hq => Or.inr hq, wld_D hD, hNk, ⟨Nat.le_refl _, Nat.le_refl _, Nat.zero_le _, Nat.zero_le _⟩, fun _ h => MQ_x h⟩ s.heap [] _ hP va_S.rf (lv_entry vs hn)
  refine MetFree.mono key (fun _ _ h => h) (fun _ _ _ _ _ h => h) ?_
  rintro a s o t - (h1 | ⟨q, h1, En, ce, L, h2, h3⟩)
  · exact h1
  · exact h2.elim
theorem J_callL {idx n d' : Nat} {M' : Mx} {hh : List (Nat × Nat × Nat × Nat)} {As : List Value} {stk : List Value} (hd : decode M.2.1 pc = .ok (.invokestatic idx, 3)) (w1 : Cond.static M'.1 ∈ Tg) (w2 : Cond.initialized M'.1.cls ∈ Tg) (w4 : Cond.codeWith M'.1 M'.2.1 M'.2.2.1 M'.2.2.2 hh ∈ Tg) (hl0 : Cond.methodLink M.1.cls idx M'.1 ∈ Tg)
    (hdd2 : M'.1.cls ≠ "java/lang/invoke/MethodHandle" ∧ M'.1.cls ≠ "java/lang/invoke/VarHandle" ∧ (parseMethodDescriptor M'.1.desc).map (fun d => d.parameters.length) = some n) (hml : M'.2.2.1 ≤ 41)
    (hn : As.length = n) (hst : stk = As.reverse ++ st) (hw : (st.map fun v => v.category).sum ≤ 8) (hdd : d' + 1 ≤ d)
    (hvk : Vk (gs G)) (h1 : gk G + 1 ≤ (gR G).cells) (h2 : gl G + 6 ≤ (gR G).slots) (hz : ∀ t : State, MQ (gb G) (Qcx E (gA G) Q) (ga G) (gs G) (gk G + 1) (gl G + 6) (gA G) t → gZ G t)
    (con : ConL E d' M' hh As μ (fun v μ' => J E (gup G) d M Q (pc + 3) ls (v.toList ++ st) μ')) : J E G d M Q pc ls stk μ := by
  intro hF H locs lsA hP hS hl
  have hG : GoodIn Tg (va_wsS M.1.cls idx M'.1 (.codeWith M'.1 M'.2.1 M'.2.2.1 M'.2.2.2 hh :: Tg)) := by
    intro w hw
    refine Tg_good w ?_
    simp only [va_wsS, List.mem_append, List.mem_cons, List.not_mem_nil, or_false] at hw
    rcases hw with (rfl | rfl | rfl) | rfl | h
    · exact hl0
    · exact w1
    · exact w2
    · exact w4
    · exact h
  have run := vx_runSW (As := As) (rest := st) (g := F0 (gm G) pc lsA stk) (cells := gk G) (slots := gl G) (locs := locs) (below := gb G) (e := ge G) (meth := gM G) ⟨hF.1, hF.2.1, hF.2.2.1, hF.2.2.2.2.2.1, hF.2.2.2.2.2.2.1⟩ (con H.size) (vx_cwSW n hF.2.2.2.2.2.2.1 hG rfl rfl rfl hdd2 ⟨Nat.le_trans hdd hF.2.2.2.2.2.2.2.2.2.2.2.1.1, by have := hF.2.2.2.2.2.2.2.2.2.2.2.1.2.1; show 8 + (M'.2.2.1 + 11) + 60 * d' ≤ _; omega⟩)
    ⟨Pcy_blind, fun U hU hW => ⟨Con_pre hP hF.2.2.2.2.2.2.2.1 (wld_D hF.2.2.2.2.2.2.2.2.2.1) hF.2.2.2.2.2.2.2.2.2.2.1 hS hF.2.2.2.2.2.2.2.2.1 U hU hW, Vk.warm hW hvk⟩⟩ rfl hn hl.1 hst (lv_room hw) hd ⟨h1, h2⟩
  have hA := wld_in (μ := μ) hF hS
  have hF' := Fx_up hF h1 h2 hz
  intro T hT X9
  obtain ⟨v, st₀, t, T', L, h0, X', hL, e1, e2, ⟨⟨v', μ', hv, hq, hP'⟩, hz1, hk'⟩, stp⟩ := run T hT X9
  cases hv
  rw [h0] at hz1 hk'
  obtain ⟨t2, a1, b1⟩ := hq hF' T'.heap (locs ++ L) lsA (by rw [e1]; exact hP') (hS.on hA (by rw [e1]; exact hz1) (fun q h3 h4 => by rw [e1]; exact hk' q h3 h4) hL) hl T' rfl X'
  exact ⟨t2, stp t2 a1, b1⟩
theorem J_astorex {i r : Nat} (hd : decode M.2.1 pc = .ok (.astore i, 2)) {ls' : List (Nat × Value)} (hn : i < M.2.2.1) (hl0 : (i, Value.ref r) :: ls.filter (fun q => !(q.1 == i) && !(q.1 + 1 == i && q.2.category == 2)) = ls') (k : J E G d M Q (pc + 2) ls' st μ) : J E G d M Q pc ls (.ref r :: st) μ :=
  fun hF H locs lsA hP hS hl => lv_astore hF.1 hF.2.1 hd hl hn hl0 (fun lsB hlB => k hF H locs lsB hP hS hlB)
theorem J_astore_nx {k0 : Fin 4} {i r : Nat} (hd : decode M.2.1 pc = .ok (.astore_n k0, 1)) (hi : (k0 : Nat) = i) {ls' : List (Nat × Value)} (hn : i < M.2.2.1) (hl0 : (i, Value.ref r) :: ls.filter (fun q => !(q.1 == i) && !(q.1 + 1 == i && q.2.category == 2)) = ls') (k : J E G d M Q (pc + 1) ls' st μ) : J E G d M Q pc ls (.ref r :: st) μ :=
  fun hF H locs lsA hP hS hl => lv_astore_n hF.1 hF.2.1 hd hi hl hn hl0 (fun lsB hlB => k hF H locs lsB hP hS hlB)
/-- caught by the only row of the table -/
theorem J_catch {a b h9 : Nat} (hM : M.1.cls = RL) (hvk : Vk (gs G)) (htab : (gc G).exceptionTable.toList = tableOf [(a, b, h9, 13)]) (hcov : covers ⟨a, b, h9, 13⟩ pc = true) (k : ∀ q9 : Nat, J E (gup G) d M Q h9 ls [.ref q9] μ) :
    Fx E d M Q (gup G) → ∀ (H : Heap) (locs : List Loc) (lsA : Array Slot) (q9 : Addr) (ce : Cell), va_P E.2.1 vwCl (wld E μ) H → va_S (gA G) (gs G).heap H locs → lv_has lsA M.2.2.1 ls → H[q9]? = some ce → ce.vm = .none → (gs G).vm.findClass xsC = some ce.cls →
      vx_W (gp G) E.1 (ge G) (gR G) (gs G) (gm G) (ga G) (gb G) (gM G) (gc G) H locs (gk G + 1) (gl G + 6) (gZ G) (F0 (gm G) pc lsA st) q9 := by
  intro hF' H locs lsA q9 ce hP hS hl hce hcv hcl
  have hown : (gs G).vm.findClass RL = some (gm G).cls := by rw [← hM]; exact hF'.2.2.2.2.2.1
  have hcast : (Cond.castable xsC xsC).before (ga G) (gs G) = true := on_args (by decide) (hvk (.castable xsC xsC) (by decide +kernel))
  exact vx_catch (own := RL) (name := xsC) hown [] ⟨a, b, h9, 13⟩ [] htab (fun z hz => nomatch hz) hcov (show (13 : Nat) ≠ 0 by decide) (hF'.2.2.2.2.2.2.1 _ wkL_x) hcast hce hcv hcl (k q9 hF' H locs lsA hP hS hl)
end JY
theorem con_L_one {E : Ex} {Q : Option Value → Mm → Prop} {p0 p1 : Int32} {μ : Mm} (kx : oneT p0 p1 μ → Q (some (.int 1)) μ) (t : ¬ oneT p0 p1 μ → p_X11_one p0 p1 μ) (k : ¬ oneT p0 p1 μ → Q (some (.int 0)) (upJ (e_X11_one p0 p1 μ) 78 0 (v_X11_one p0 p1 μ).toInt64)) : ConL E 9 mL_one [(0, 10, 13, 13)] [rf E 0, .int p0, .int p1, rf E 78] μ Q := by
  refine ConL_J (by decide +kernel) (Nat.le_of_ble_eq_true rfl) (fun G hG => ?_)
  obtain ⟨g1, g2, g3, g4, g5, g6, g7⟩ := hG
  refine J_sub (ls' := [(0, rf E 0), (1, .int p0), (2, .int p1), (3, rf E 78)]) [0, 1, 2, 3] rfl ?_
  refine J_aload_n (dk okL_one 0 rfl) 3 rfl rfl ?_
  refine J_iconst (v := 0) (dk okL_one 1 rfl) (by decide) ?_
  refine J_aload_n (dk okL_one 2 rfl) 0 rfl rfl ?_
  refine J_iload_n (dk okL_one 3 rfl) 1 rfl rfl ?_
  refine J_iload_n (dk okL_one 4 rfl) 2 rfl rfl ?_
  refine J_callX (X := oneT p0 p1 μ) (As := [.int p0, .int p1]) (dk okL_one 5 rfl) ds_0 rfl vkX11_one lkL_7 rfl rfl (Nat.le_of_ble_eq_true rfl) (Nat.le_refl 9) g5 (by rw [g1]; exact g3) (by rw [g2]; exact g4) (fun t ht => g7 t (by rw [g1, g2] at ht; obtain ⟨o, b1, b2, b3, b4⟩ := ht; exact ⟨o, b1, b2, Or.inl ⟨b3, b4⟩⟩)) (con_X11_one id t (fun hn => ?_)) (fun hx => ?_)
  · refine J_i2l (dk okL_one 6 rfl) ?_
    refine J_last (dk okL_one 7 rfl) (show dscL[78]? = some (.inr (.inr 1)) from rfl) (vp_in_nI (n := 0) (N := 1) (by decide) (by decide)) ?_
    refine J_goto (tgt := 17) (dk okL_one 8 rfl) (by decide) ?_
    refine J_iconst (v := 0) (dk okL_one 12 rfl) (by decide) ?_
    exact J_iret (dk okL_one 13 rfl) rfl (k hn)
  · refine J_catch rfl g5 g6 (by decide) (fun q9 => ?_)
    refine J_astorex (ls' := [(4, _), (0, _), (1, _), (2, _), (3, _)]) (dk okL_one 9 rfl) (by decide) rfl ?_
    refine J_iconst (v := 1) (dk okL_one 10 rfl) (by decide) ?_
    exact J_iret (dk okL_one 11 rfl) rfl (kx hx)
theorem con_L_row {E : Ex} {Q : Option Value → Mm → Prop} {p0 : Int32} {μ : Mm} (kx : rowT p0 μ → Q (some (.int 1)) μ) (t : ¬ rowT p0 μ → vp_in p0 16) (k : ¬ rowT p0 μ → Q (some (.int 0)) (upJ μ 78 0 (μ.2 28 p0.toNatClampNeg))) : ConL E 9 mL_row [(0, 8, 11, 13)] [rf E 0, .int p0, rf E 78] μ Q := by
  refine ConL_J (by decide +kernel) (Nat.le_of_ble_eq_true rfl) (fun G hG => ?_)
  obtain ⟨g1, g2, g3, g4, g5, g6, g7⟩ := hG
  refine J_sub (ls' := [(0, rf E 0), (1, .int p0), (2, rf E 78)]) [0, 1, 2] rfl ?_
  refine J_aload_n (dk okL_row 0 rfl) 2 rfl rfl ?_
  refine J_iconst (v := 0) (dk okL_row 1 rfl) (by decide) ?_
  refine J_aload_n (dk okL_row 2 rfl) 0 rfl rfl ?_
  refine J_iload_n (dk okL_row 3 rfl) 1 rfl rfl ?_
  refine J_callX (X := rowT p0 μ) (As := [.int p0]) (dk okL_row 4 rfl) ds_0 rfl vkX11_row lkL_15 rfl rfl (Nat.le_of_ble_eq_true rfl) (Nat.le_refl 9) g5 (by rw [g1]; exact g3) (by rw [g2]; exact g4) (fun t ht => g7 t (by rw [g1, g2] at ht; obtain ⟨o, b1, b2, b3, b4⟩ := ht; exact ⟨o, b1, b2, Or.inl ⟨b3, b4⟩⟩)) (con_X11_row id t (fun hn => ?_)) (fun hx => ?_)
  · refine J_last (dk okL_row 5 rfl) (show dscL[78]? = some (.inr (.inr 1)) from rfl) (vp_in_nI (n := 0) (N := 1) (by decide) (by decide)) ?_
    refine J_goto (tgt := 14) (dk okL_row 6 rfl) (by decide) ?_
    refine J_iconst (v := 0) (dk okL_row 10 rfl) (by decide) ?_
    exact J_iret (dk okL_row 11 rfl) rfl (k hn)
  · refine J_catch rfl g5 g6 (by decide) (fun q9 => ?_)
    refine J_astore_nx (ls' := [(3, _), (0, _), (1, _), (2, _)]) (dk okL_row 7 rfl) rfl (by decide) rfl ?_
    refine J_iconst (v := 1) (dk okL_row 8 rfl) (by decide) ?_
    exact J_iret (dk okL_row 9 rfl) rfl (kx hx)

/-! what is done, and can be undone -/
theorem RgF_row {F : FL} (h : RgF F) : RgR (f_n F) (rowF F) :=
  ⟨fun i hi => ⟨(h.2.1 i hi).2.1, (h.2.1 i hi).2.2.1, (h.2.1 i hi).2.2.2⟩, h.2.2.2.1, fun i h1 h2 => ⟨(h.2.2.2.2 i h1 h2).2.1, (h.2.2.2.2 i h1 h2).2.2.1, (h.2.2.2.2 i h1 h2).2.2.2⟩⟩
theorem RgF_put {F : FL} {R : Rw} (h : RgF F) (hR : RgR (f_n F) R) : RgF (putF F R) :=
  ⟨h.1, fun i hi => ⟨(h.2.1 i hi).1, (hR.1 i hi).1, (hR.1 i hi).2.1, (hR.1 i hi).2.2⟩, h.2.2.1, hR.2.1, fun i h1 h2 => ⟨(h.2.2.2.2 i h1 h2).1, (hR.2.2 i h1 h2).1, (hR.2.2 i h1 h2).2.1, (hR.2.2 i h1 h2).2.2⟩⟩
theorem inB_t {x : Int32} {l h : Int} (q : inB x l h = true) : l ≤ x.toInt ∧ x.toInt ≤ h := of_decide_eq_true q
theorem RgF_setP {F : FL} {i : Nat} {v : Int32} (h : RgF F) (hi : i < f_n F) (hv : inB v (-9) 9 = true) : RgF (setP F i v) := by
  refine ⟨h.1, fun j hj => ⟨(h.2.1 j hj).1, (h.2.1 j hj).2.1, ?_, (h.2.1 j hj).2.2.2⟩, h.2.2.1, h.2.2.2.1, fun j h1 h2 => ⟨(h.2.2.2.2 j h1 h2).1, (h.2.2.2.2 j h1 h2).2.1, ?_, (h.2.2.2.2 j h1 h2).2.2.2⟩⟩
  · show -9 ≤ (if j = i then v else f_p F j).toInt ∧ (if j = i then v else f_p F j).toInt ≤ 9
    by_cases e : j = i
    · rw [if_pos e]; exact inB_t hv
    · rw [if_neg e]; exact (h.2.1 j hj).2.2.1
  · show (if j = i then v else f_p F j) = 0
    have h1' : f_n F ≤ j := h1
    rw [if_neg (by omega)]; exact (h.2.2.2.2 j h1 h2).2.2.1
theorem RgF_setK {F : FL} {i : Nat} {v : Int32} (h : RgF F) (hi : i < f_n F) (hv : inB v 0 9 = true) : RgF (setK F i v) := by
  refine ⟨h.1, fun j hj => ⟨(h.2.1 j hj).1, (h.2.1 j hj).2.1, (h.2.1 j hj).2.2.1, ?_⟩, h.2.2.1, h.2.2.2.1, fun j h1 h2 => ⟨(h.2.2.2.2 j h1 h2).1, (h.2.2.2.2 j h1 h2).2.1, (h.2.2.2.2 j h1 h2).2.2.1, ?_⟩⟩
  · show 0 ≤ (if j = i then v else f_k F j).toInt ∧ (if j = i then v else f_k F j).toInt ≤ 9
    by_cases e : j = i
    · rw [if_pos e]; exact inB_t hv
    · rw [if_neg e]; exact (h.2.1 j hj).2.2.2
  · show (if j = i then v else f_k F j) = 0
    have h1' : f_n F ≤ j := h1
    rw [if_neg (by omega)]; exact (h.2.2.2.2 j h1 h2).2.2.2
theorem RgF_setH {F : FL} {i : Nat} {v : Int32} (h : RgF F) (hi : i < f_n F) (hv : inB v (-9) 9 = true) : RgF (setH F i v) := by
  refine ⟨h.1, fun j hj => ⟨(h.2.1 j hj).1, ?_, (h.2.1 j hj).2.2.1, (h.2.1 j hj).2.2.2⟩, h.2.2.1, h.2.2.2.1, fun j h1 h2 => ⟨(h.2.2.2.2 j h1 h2).1, ?_, (h.2.2.2.2 j h1 h2).2.2.1, (h.2.2.2.2 j h1 h2).2.2.2⟩⟩
  · show -9 ≤ (if j = i then v else f_h F j).toInt ∧ (if j = i then v else f_h F j).toInt ≤ 9
    by_cases e : j = i
    · rw [if_pos e]; exact inB_t hv
    · rw [if_neg e]; exact (h.2.1 j hj).2.1
  · show (if j = i then v else f_h F j) = 0
    have h1' : f_n F ≤ j := h1
    rw [if_neg (by omega)]; exact (h.2.2.2.2 j h1 h2).2.1
theorem RgF_setO {F : FL} {i : Nat} (h : RgF F) (hi : i < f_n F) : RgF (setO F (f_o F ^^^ (1 <<< (nI i &&& 31)))) := by
  refine ⟨h.1, h.2.1, h.2.2.1, fun j h1 h2 => ?_, h.2.2.2.2⟩
  have h1' : f_n F ≤ j := h1
  have hn := h.1
  show bt (f_o F ^^^ (1 <<< (nI i &&& 31))) j = false
  rw [b_xor, h.2.2.2.1 j h1 h2, bt_one i (by omega) j h2, decide_eq_false (by omega)]; rfl
theorem RgF_lead {F : FL} (h : RgF F) (x v : Int32) : RgF (leadF F x v) := by
  unfold leadF
  cases hx : hasF F x
  · exact h
  · cases hv : inB v (-9) 9
    · exact h
    · exact RgF_setP h (hasF_cl h.1 hx).1 hv
theorem RgF_sack {F : FL} (h : RgF F) (x v : Int32) : RgF (sackF F x v) := by
  unfold sackF
  cases hx : hasF F x
  · exact h
  · cases hv : inB v 0 9
    · exact h
    · exact RgF_setK h (hasF_cl h.1 hx).1 hv
theorem RgF_turn {F : FL} (h : RgF F) (x v : Int32) : RgF (turnF F x v) := by
  unfold turnF
  cases hx : hasF F x
  · exact h
  · cases hv : inB v (-9) 9
    · exact h
    · exact RgF_setH h (hasF_cl h.1 hx).1 hv
theorem RgF_step {F : FL} (h : RgF F) (x : Int32) : RgF (stepF F x) := by
  unfold stepF
  cases hx : hasF F x
  · exact h
  · obtain ⟨h1, h2⟩ := hasF_cl h.1 hx
    rw [if_pos rfl, h2]
    exact RgF_setO h h1
theorem RgF_noon {F : FL} (h : RgF F) (v : Int32) : RgF (noonF F v) := by
  unfold noonF
  cases inB v 1 60
  · exact h
  · exact h
theorem lead_n (F : FL) (x v : Int32) : f_n (leadF F x v) = f_n F := by
  unfold leadF; (repeat' split) <;> rfl
theorem sack_n (F : FL) (x v : Int32) : f_n (sackF F x v) = f_n F := by
  unfold sackF; (repeat' split) <;> rfl
theorem turn_n (F : FL) (x v : Int32) : f_n (turnF F x v) = f_n F := by
  unfold turnF; (repeat' split) <;> rfl
theorem step_n (F : FL) (x : Int32) : f_n (stepF F x) = f_n F := by
  unfold stepF; (repeat' split) <;> rfl
theorem noon_n (F : FL) (x : Int32) : f_n (noonF F x) = f_n F := by
  unfold noonF; (repeat' split) <;> rfl
def setF (σ : ST) (F : FL) : ST := (F, σ.2)
def setU (σ : ST) (U : List Rw) : ST := (s_F σ, s_r σ, s_T σ, U, s_K σ, s_S σ, s_H σ)
def undV (σ : ST) (V : Int32) : List Rw := if V < 0 then s_U σ else (rowF (s_F σ) :: s_U σ).take 15
def actS (σ : ST) (F : FL) (V : Int32) : ST := (F, s_r σ, s_T σ, undV σ V, s_K σ, s_S σ, s_H σ)
theorem hasF_n {F G : FL} (h : f_n G = f_n F) (x : Int32) : hasF G x = hasF F x := by
  unfold hasF; rw [h]
theorem OK_act {σ : ST} {F : FL} (h : OK σ) (hF : RgF F) (hn : f_n F = f_n (s_F σ)) (V : Int32) : OK (actS σ F V) := by
  obtain ⟨h1, h2, h3, h4, h5, h6, h7⟩ := h
  refine ⟨hF, h2, h3, fun R hR => ?_, fun i R hi hR => ?_, fun x hx => ?_, h7⟩
  · show RgR (f_n F) R
    rw [hn]
    have hR' : R ∈ (if V < 0 then s_U σ else (rowF (s_F σ) :: s_U σ).take 15) := hR
    by_cases q : V < 0
    · rw [if_pos q] at hR'; exact h4 R hR'
    · rw [if_neg q] at hR'
      rcases List.mem_cons.mp (List.mem_of_mem_take hR') with e | e
      · rw [e]; exact RgF_row h1
      · exact h4 R e
  · show RgR (f_n F) R
    rw [hn]; exact h5 i R hi hR
  · show hasF F x.1 = true ∧ _
    rw [hasF_n hn]; exact h6 x hx
def actC : List Nat := [1, 3, 4, 5, 6, 7, 17]
theorem C_done {σ : ST} {F : FL} {V : Int32} {La : List Nat} {μ μ2 μ4 : Mm} (h : CS σ μ) (f0 : Fr [30] μ μ2) (hu : PnC (s_U σ) (rowF (s_F σ)) μ2) (hf : FlC 1 F μ4) (fa : Fr La μ2 μ4) (hLa : ∀ x, x ∈ La → x ∈ actC) : CS (actS σ F V) (e_X11_committed V μ4) ∧ Fr (30 :: 29 :: La) μ (e_X11_committed V μ4) := by
  have n : ∀ {c}, c ∉ actC → c ∉ La := fun hc q => hc (hLa _ q)
  have hu4 := hu.fr fa ⟨n (by decide), n (by decide)⟩
  have fc : Fr [29] μ4 (e_X11_committed V μ4) := fr_X11_committed V μ4
  have hU : UnC (undV σ V) (e_X11_committed V μ4) := by
    unfold undV e_X11_committed
    by_cases q : V < 0
    · simp only [if_pos q]; exact hu4.un
    · simp only [if_neg q]; exact C_commit hu4
  have fall : Fr (30 :: 29 :: La) μ (e_X11_committed V μ4) := ((Fr.rfl.call f0 (by simp)).call fa (fun k hk => by simp [hk])).call fc (by simp)
  have m : ∀ {c}, c ∉ actC → c ≠ 30 → c ≠ 29 → c ∉ 30 :: 29 :: La := fun h1 h2 h3 => by simp [h2, h3, n h1]
  refine ⟨⟨hf.fr fc (by simp), h.r.fr fall ⟨m (by decide) (by decide) (by decide), m (by decide) (by decide) (by decide)⟩, h.T.fr fall ⟨m (by decide) (by decide) (by decide), m (by decide) (by decide) (by decide)⟩, hU, h.K.fr fall ⟨m (by decide) (by decide) (by decide), m (by decide) (by decide) (by decide)⟩, h.S.fr fall ⟨m (by decide) (by decide) (by decide), m (by decide) (by decide) (by decide), m (by decide) (by decide) (by decide), m (by decide) (by decide) (by decide)⟩, h.H.fr fall ⟨m (by decide) (by decide) (by decide), m (by decide) (by decide) (by decide), m (by decide) (by decide) (by decide)⟩⟩, fall⟩
def actM : List Nat := [50, 52, 59, 60, 62, 1001]
theorem M_counted {U : List Rw} {R : Rw} {μ : Mm} (h : PnM U R μ) (V : Int32) : p_X12_counted V μ ∧ v_X12_counted V μ = V ∧ UnM (if V < 0 then U else (R :: U).take 15) (e_X12_counted V μ) := by
  obtain ⟨p1, p2, p3⟩ := M_adds h V
  unfold p_X12_counted v_X12_counted e_X12_counted
  by_cases q : V < 0
  · have q2 : ¬ 0 ≤ V := by rw [fa_le]; rw [fa_lt] at q; omega
    simp only [if_pos q, if_neg q2]
    exact ⟨fun z => absurd z q2, trivial, h.un⟩
  · have q2 : 0 ≤ V := by rw [fa_le]; rw [fa_lt] at q; omega
    simp only [if_neg q, if_pos q2]
    exact ⟨fun _ => p1, p2, p3⟩
theorem M_done {σ : ST} {F : FL} {La : List Nat} {μ μ2 μ4 : Mm} {V : Int32} (h : MS σ μ) (hn : f_n F = f_n (s_F σ)) (f0 : Fs [61] μ μ2) (hf : FlM 52 F μ4) (fa : Fs La μ2 μ4) (hLa : ∀ x, x ∈ La → x ∈ actM) (hu : UnM (undV σ V) (e_X12_counted V μ4)) : MS (actS σ F V) (e_X12_counted V μ4) := by
  have n : ∀ {c}, c ∉ actM → c ∉ La := fun hc q => hc (hLa _ q)
  have fc : Fs [61, 1023] μ4 (e_X12_counted V μ4) := fs_X12_counted V μ4
  have fall : Fs (61 :: 1023 :: La) μ (e_X12_counted V μ4) := ((Fs.rfl.call f0 (by simp)).call fa (fun k hk => by simp [hk])).call fc (by simp)
  have m : ∀ {c}, c ∉ actM → c ≠ 61 → c ≠ 1023 → c ∉ 61 :: 1023 :: La := fun h1 h2 h3 => by simp [h2, h3, n h1]
  refine ⟨hf.fs fc (by simp), h.r.fs fall ⟨m (by decide) (by decide) (by decide), m (by decide) (by decide) (by decide), m (by decide) (by decide) (by decide)⟩, h.T.fs fall ⟨m (by decide) (by decide) (by decide), m (by decide) (by decide) (by decide), m (by decide) (by decide) (by decide)⟩, hu, ?_, h.S.fs fall ⟨m (by decide) (by decide) (by decide), m (by decide) (by decide) (by decide), m (by decide) (by decide) (by decide), m (by decide) (by decide) (by decide), m (by decide) (by decide) (by decide)⟩, h.H.fs fall ⟨m (by decide) (by decide) (by decide), m (by decide) (by decide) (by decide), m (by decide) (by decide) (by decide), m (by decide) (by decide) (by decide)⟩⟩
  show KeM (s_K σ) (f_n F) _
  rw [hn]
  exact h.K.fs fall ⟨m (by decide) (by decide) (by decide), m (by decide) (by decide) (by decide), m (by decide) (by decide) (by decide), m (by decide) (by decide) (by decide), m (by decide) (by decide) (by decide)⟩
theorem MS.th {σ : ST} {μ : Mm} (h : MS σ μ) (v : Int32) : MS σ (upI μ 49 0 v) := h.fs (L := [1000]) (Fs.upF Fs.rfl (by simp)) (by decide)
theorem ToM.th {R : List Int64} {μ : Mm} (h : ToM R μ) (v : Int32) : ToM R (upI μ 49 0 v) := h.fs (S := [1000]) (Fs.upF Fs.rfl (by simp)) (by decide)
theorem Both {σ σ' : ST} {R R' : List Int64} {μ μ1 μ2 : Mm} {LM : List Nat} (h : Sim σ R μ) (ok : OK σ') (c : CS σ' μ1) (tc : ToC R' μ1) (m : MS σ' μ2) (tm : ToM R' μ2) (fM : Fs LM μ1 μ2) (hM : ∀ x, x ∈ LM → 49 ≤ x) : ∃ σ R, Sim σ R μ2 :=
  ⟨σ', R', ok, c.fc (fM.fc hM), m, tc.fc (fM.fc hM), tm⟩
section LE
variable {σ : ST} {R : List Int64} {μ : Mm}
theorem call_leads (h : Sim σ R μ) (x v : Int32) : Call (p_X11_leads x v μ) (p_X12_leads x v (e_X11_leads x v μ)) (v_X11_leads x v μ) (v_X12_leads x v (e_X11_leads x v μ)) (e_X12_leads x v (e_X11_leads x v μ)) := by
  obtain ⟨ok, hc, hm, tc, tm⟩ := h
  obtain ⟨n1, n2⟩ := C_note hc.F hc.U
  have f0 := fr_X3_note 1 μ
  have hF2 := hc.F.fr f0 (by simp)
  obtain ⟨a1, a2, a3⟩ := C_lead hF2 x v
  have fa := fr_X1_lead 1 x v (e_X3_note 1 μ)
  have fC := fr_X11_leads x v μ
  have hC : CS (actS σ (leadF (s_F σ) x v) (leadV (s_F σ) x v)) (e_X11_leads x v μ) := by
    have := (C_done (V := leadV (s_F σ) x v) hc f0 n2 a3 fa (by decide)).1
    unfold e_X11_leads
    dsimp only
    rw [a2]
    exact this
  have hm1 : MS σ (e_X11_leads x v μ) := hm.frC fC (by decide)
  have tm1 : ToM R (e_X11_leads x v μ) := tm.frC fC (by decide)
  have tc1 : ToC R (e_X11_leads x v μ) := tc.fr fC (by decide)
  have fM := fs_X12_leads x v (e_X11_leads x v μ)
  refine ⟨?_, ?_⟩
  · unfold p_X11_leads
    simp only [forall_eq]
    exact ⟨n1, a1⟩
  have hv : v_X11_leads x v μ = leadV (s_F σ) x v := by
    unfold v_X11_leads v_X11_committed
    exact a2
  rw [hv]
  generalize e_X11_leads x v μ = μ1 at *
  have hm0 := hm1.th 0
  obtain ⟨b1, b2⟩ := M_putsBy hm0.F hm0.U
  have g0 := fs_X12_putsBy (upI μ1 49 0 0)
  have hF3 := hm0.F.fs g0 (by simp)
  obtain ⟨c1, c2, c3⟩ := M_lead hF3 x v
  have ga := fs_X12_leadsTo x v (e_X12_putsBy (upI μ1 49 0 0))
  obtain ⟨d1, d2, d3⟩ := M_counted (b2.fs ga (by simp)) (leadV (s_F σ) x v)
  have hM := M_done hm0 (lead_n _ _ _) g0 c3 ga (by decide) d3
  refine ⟨?_, ?_, ?_⟩
  · unfold p_X12_leads
    simp only [forall_eq]
    rw [c2]
    exact ⟨b1, c1, d1⟩
  · unfold v_X12_leads
    dsimp only
    rw [c2, d2]
  · refine Both ⟨ok, hc, hm, tc, tm⟩ (OK_act ok (RgF_lead ok.g x v) (lead_n _ _ _) (leadV (s_F σ) x v)) hC tc1 ?_ (tm1.fs fM (by decide)) fM (by decide)
    unfold e_X12_leads
    dsimp only
    rw [c2]
    exact hM
theorem call_sacks (h : Sim σ R μ) (x v : Int32) : Call (p_X11_sacks x v μ) (p_X12_sacks x v (e_X11_sacks x v μ)) (v_X11_sacks x v μ) (v_X12_sacks x v (e_X11_sacks x v μ)) (e_X12_sacks x v (e_X11_sacks x v μ)) := by
  obtain ⟨ok, hc, hm, tc, tm⟩ := h
  obtain ⟨n1, n2⟩ := C_note hc.F hc.U
  have f0 := fr_X3_note 1 μ
  have hF2 := hc.F.fr f0 (by simp)
  obtain ⟨a1, a2, a3⟩ := C_burden hF2 x v
  have fa := fr_X1_burden 1 x v (e_X3_note 1 μ)
  have fC := fr_X11_sacks x v μ
  have hC : CS (actS σ (sackF (s_F σ) x v) (sackV (s_F σ) x v)) (e_X11_sacks x v μ) := by
    have := (C_done (V := sackV (s_F σ) x v) hc f0 n2 a3 fa (by decide)).1
    unfold e_X11_sacks
    dsimp only
    rw [a2]
    exact this
  have hm1 : MS σ (e_X11_sacks x v μ) := hm.frC fC (by decide)
  have tm1 : ToM R (e_X11_sacks x v μ) := tm.frC fC (by decide)
  have tc1 : ToC R (e_X11_sacks x v μ) := tc.fr fC (by decide)
  have fM := fs_X12_sacks x v (e_X11_sacks x v μ)
  refine ⟨?_, ?_⟩
  · unfold p_X11_sacks
    simp only [forall_eq]
    exact ⟨n1, a1⟩
  have hv : v_X11_sacks x v μ = sackV (s_F σ) x v := by
    unfold v_X11_sacks v_X11_committed
    exact a2
  rw [hv]
  generalize e_X11_sacks x v μ = μ1 at *
  have hm0 := hm1.th 0
  obtain ⟨b1, b2⟩ := M_putsBy hm0.F hm0.U
  have g0 := fs_X12_putsBy (upI μ1 49 0 0)
  have hF3 := hm0.F.fs g0 (by simp)
  obtain ⟨c1, c2, c3⟩ := M_sack hF3 x v
  have ga := fs_X12_sacksTo x v (e_X12_putsBy (upI μ1 49 0 0))
  obtain ⟨d1, d2, d3⟩ := M_counted (b2.fs ga (by simp)) (sackV (s_F σ) x v)
  have hM := M_done hm0 (sack_n _ _ _) g0 c3 ga (by decide) d3
  refine ⟨?_, ?_, ?_⟩
  · unfold p_X12_sacks
    simp only [forall_eq]
    rw [c2]
    exact ⟨b1, c1, d1⟩
  · unfold v_X12_sacks
    dsimp only
    rw [c2, d2]
  · refine Both ⟨ok, hc, hm, tc, tm⟩ (OK_act ok (RgF_sack ok.g x v) (sack_n _ _ _) (sackV (s_F σ) x v)) hC tc1 ?_ (tm1.fs fM (by decide)) fM (by decide)
    unfold e_X12_sacks
    dsimp only
    rw [c2]
    exact hM
theorem call_turnsTo (h : Sim σ R μ) (x v : Int32) : Call (p_X11_turnsTo x v μ) (p_X12_turnsTo x v (e_X11_turnsTo x v μ)) (v_X11_turnsTo x v μ) (v_X12_turnsTo x v (e_X11_turnsTo x v μ)) (e_X12_turnsTo x v (e_X11_turnsTo x v μ)) := by
  obtain ⟨ok, hc, hm, tc, tm⟩ := h
  obtain ⟨n1, n2⟩ := C_note hc.F hc.U
  have f0 := fr_X3_note 1 μ
  have hF2 := hc.F.fr f0 (by simp)
  obtain ⟨a1, a2, a3⟩ := C_turn hF2 x v
  have fa := fr_X1_turn 1 x v (e_X3_note 1 μ)
  have fC := fr_X11_turnsTo x v μ
  have hC : CS (actS σ (turnF (s_F σ) x v) (turnV (s_F σ) x v)) (e_X11_turnsTo x v μ) := by
    have := (C_done (V := turnV (s_F σ) x v) hc f0 n2 a3 fa (by decide)).1
    unfold e_X11_turnsTo
    dsimp only
    rw [a2]
    exact this
  have hm1 : MS σ (e_X11_turnsTo x v μ) := hm.frC fC (by decide)
  have tm1 : ToM R (e_X11_turnsTo x v μ) := tm.frC fC (by decide)
  have tc1 : ToC R (e_X11_turnsTo x v μ) := tc.fr fC (by decide)
  have fM := fs_X12_turnsTo x v (e_X11_turnsTo x v μ)
  refine ⟨?_, ?_⟩
  · unfold p_X11_turnsTo
    simp only [forall_eq]
    exact ⟨n1, a1⟩
  have hv : v_X11_turnsTo x v μ = turnV (s_F σ) x v := by
    unfold v_X11_turnsTo v_X11_committed
    exact a2
  rw [hv]
  generalize e_X11_turnsTo x v μ = μ1 at *
  have hm0 := hm1.th 0
  obtain ⟨b1, b2⟩ := M_putsBy hm0.F hm0.U
  have g0 := fs_X12_putsBy (upI μ1 49 0 0)
  have hF3 := hm0.F.fs g0 (by simp)
  obtain ⟨c1, c2, c3⟩ := M_turn hF3 x v
  have ga := fs_X12_wishesTo x v (e_X12_putsBy (upI μ1 49 0 0))
  obtain ⟨d1, d2, d3⟩ := M_counted (b2.fs ga (by simp)) (turnV (s_F σ) x v)
  have hM := M_done hm0 (turn_n _ _ _) g0 c3 ga (by decide) d3
  refine ⟨?_, ?_, ?_⟩
  · unfold p_X12_turnsTo
    simp only [forall_eq]
    rw [c2]
    exact ⟨b1, c1, d1⟩
  · unfold v_X12_turnsTo
    dsimp only
    rw [c2, d2]
  · refine Both ⟨ok, hc, hm, tc, tm⟩ (OK_act ok (RgF_turn ok.g x v) (turn_n _ _ _) (turnV (s_F σ) x v)) hC tc1 ?_ (tm1.fs fM (by decide)) fM (by decide)
    unfold e_X12_turnsTo
    dsimp only
    rw [c2]
    exact hM
theorem call_steps (h : Sim σ R μ) (x : Int32) : Call (p_X11_steps x μ) (p_X12_steps x (e_X11_steps x μ)) (v_X11_steps x μ) (v_X12_steps x (e_X11_steps x μ)) (e_X12_steps x (e_X11_steps x μ)) := by
  obtain ⟨ok, hc, hm, tc, tm⟩ := h
  obtain ⟨n1, n2⟩ := C_note hc.F hc.U
  have f0 := fr_X3_note 1 μ
  have hF2 := hc.F.fr f0 (by simp)
  obtain ⟨a2, a3⟩ := C_step hF2 x
  have fa := fr_X1_stepOffOrOn 1 x (e_X3_note 1 μ)
  have fC := fr_X11_steps x μ
  have hC : CS (actS σ (stepF (s_F σ) x) (stepV (s_F σ) x)) (e_X11_steps x μ) := by
    have := (C_done (V := stepV (s_F σ) x) hc f0 n2 a3 fa (by decide)).1
    unfold e_X11_steps
    dsimp only
    rw [a2]
    exact this
  have hm1 : MS σ (e_X11_steps x μ) := hm.frC fC (by decide)
  have tm1 : ToM R (e_X11_steps x μ) := tm.frC fC (by decide)
  have tc1 : ToC R (e_X11_steps x μ) := tc.fr fC (by decide)
  have fM := fs_X12_steps x (e_X11_steps x μ)
  refine ⟨?_, ?_⟩
  · unfold p_X11_steps
    exact n1
  have hv : v_X11_steps x μ = stepV (s_F σ) x := by
    unfold v_X11_steps v_X11_committed
    exact a2
  rw [hv]
  generalize e_X11_steps x μ = μ1 at *
  have hm0 := hm1.th 0
  obtain ⟨b1, b2⟩ := M_putsBy hm0.F hm0.U
  have g0 := fs_X12_putsBy (upI μ1 49 0 0)
  have hF3 := hm0.F.fs g0 (by simp)
  obtain ⟨c2, c3⟩ := M_step hF3 (.inl rfl) x
  have ga := fs_X12_stepsOff 52 x (e_X12_putsBy (upI μ1 49 0 0))
  obtain ⟨d1, d2, d3⟩ := M_counted (b2.fs ga (by simp)) (stepV (s_F σ) x)
  have hM := M_done hm0 (step_n _ _) g0 c3 ga (by decide) d3
  refine ⟨?_, ?_, ?_⟩
  · unfold p_X12_steps
    simp only [forall_eq]
    rw [c2]
    exact ⟨b1, d1⟩
  · unfold v_X12_steps
    dsimp only
    rw [c2, d2]
  · refine Both ⟨ok, hc, hm, tc, tm⟩ (OK_act ok (RgF_step ok.g x) (step_n _ _) (stepV (s_F σ) x)) hC tc1 ?_ (tm1.fs fM (by decide)) fM (by decide)
    unfold e_X12_steps
    dsimp only
    rw [c2]
    exact hM
end LE

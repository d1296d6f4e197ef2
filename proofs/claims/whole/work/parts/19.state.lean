/-! the whole state, as both sides hold it -/
/-- the row that is told -/
def ToC (R : List Int64) (μ : Mm) : Prop := R.length ≤ 16 ∧ μ.1 27 1 = nI R.length ∧ ∀ i, i < R.length → μ.2 28 i = R.getD i 0
def ToM (R : List Int64) (μ : Mm) : Prop := R.length ≤ 16 ∧ μ.1 49 1 = nI R.length ∧ ∀ i, i < R.length → μ.2 50 i = R.getD i 0
def TxC (T : List Nat) (μ : Mm) : Prop := T.length ≤ 80 ∧ μ.1 25 1 = nI T.length ∧ ∀ i, i < T.length → μ.1 26 i = nI (T.getD i 0)
def TxM (T : List Nat) (μ : Mm) : Prop := T.length ≤ 80 ∧ μ.1 49 9 = nI T.length ∧ ∀ i, i < T.length → μ.1 54 i = nI (T.getD i 0)
abbrev Sg : Type := Int32 × Int32 × Int32
def SeC (S : List Sg) (μ : Mm) : Prop := S.length ≤ 10 ∧ μ.1 38 3 = nI S.length ∧ ∀ i, i < S.length → μ.1 39 i = (S.getD i (0, 0, 0)).1 ∧ μ.1 40 i = (S.getD i (0, 0, 0)).2.1 ∧ μ.1 41 i = (S.getD i (0, 0, 0)).2.2
def SeM (S : List Sg) (μ : Mm) : Prop := S.length ≤ 10 ∧ μ.1 49 31 = nI S.length ∧ ∀ i, i < S.length → μ.1 67 i = (S.getD i (0, 0, 0)).1 ∧ μ.1 68 i = (S.getD i (0, 0, 0)).2.1 ∧ μ.1 69 i = (S.getD i (0, 0, 0)).2.2
abbrev Hs : Type := Int32 × Int32
def HeC (H : List Hs) (μ : Mm) : Prop := H.length ≤ 12 ∧ μ.1 42 2 = nI H.length ∧ ∀ i, i < H.length → μ.1 43 i = (H.getD i (0, 0)).1 ∧ μ.1 44 i = (H.getD i (0, 0)).2
def HeM (H : List Hs) (μ : Mm) : Prop := H.length ≤ 12 ∧ μ.1 49 36 = nI H.length ∧ ∀ i, i < H.length → μ.1 71 i = (H.getD i (0, 0)).1 ∧ μ.1 72 i = (H.getD i (0, 0)).2
def KeC (K : Nat → Option Rw) (μ : Mm) : Prop := ∀ i, i < 3 → μ.1 32 i = (if (K i).isSome then 1 else 0) ∧ ∀ R, K i = some R → RwC 31 (24 * i) R μ
def KeM (K : Nat → Option Rw) (n : Nat) (μ : Mm) : Prop := ∃ c, c ≤ n ∧ μ.1 49 4 = nI c ∧ ∀ i, i < 3 → (∀ R, K i = some R → ¬ μ.1 75 i = 0 ∧ μ.1 76 i = nI c ∧ RwM 77 (24 * i) R μ) ∧ (K i = none → μ.1 75 i = 0 ∨ μ.1 76 i ≠ nI c) ∧ (¬ μ.1 75 i = 0 → ∃ d, d ≤ c ∧ μ.1 76 i = nI d)
abbrev ST : Type := FL × List Nat × List Nat × List Rw × (Nat → Option Rw) × List Sg × List Hs
def s_F (σ : ST) : FL := σ.1
def s_r (σ : ST) : List Nat := σ.2.1
def s_T (σ : ST) : List Nat := σ.2.2.1
def s_U (σ : ST) : List Rw := σ.2.2.2.1
def s_K (σ : ST) : Nat → Option Rw := σ.2.2.2.2.1
def s_S (σ : ST) : List Sg := σ.2.2.2.2.2.1
def s_H (σ : ST) : List Hs := σ.2.2.2.2.2.2
def CS (σ : ST) (μ : Mm) : Prop := FlC 1 (s_F σ) μ ∧ RuC 15 (s_r σ) μ ∧ TxC (s_T σ) μ ∧ UnC (s_U σ) μ ∧ KeC (s_K σ) μ ∧ SeC (s_S σ) μ ∧ HeC (s_H σ) μ
def MS (σ : ST) (μ : Mm) : Prop := FlM 52 (s_F σ) μ ∧ RuM (s_r σ) μ ∧ TxM (s_T σ) μ ∧ UnM (s_U σ) μ ∧ KeM (s_K σ) (f_n (s_F σ)) μ ∧ SeM (s_S σ) μ ∧ HeM (s_H σ) μ
def RgR (n : Nat) (R : Rw) : Prop := (∀ i, i < 7 → (-9 ≤ (R.1 i).toInt ∧ (R.1 i).toInt ≤ 9) ∧ (-9 ≤ (R.2.1 i).toInt ∧ (R.2.1 i).toInt ≤ 9) ∧ 0 ≤ (R.2.2.1 i).toInt ∧ (R.2.2.1 i).toInt ≤ 9) ∧ (∀ i, n ≤ i → i < 32 → bt R.2.2.2.1 i = false) ∧ ∀ i, n ≤ i → i < 7 → R.1 i = 0 ∧ R.2.1 i = 0 ∧ R.2.2.1 i = 0
def hokB (w v : Int32) : Bool := (decide (w = 0) && inB v 1 18) || (decide (w = 2) && inB v 0 9) || ((decide (w = 1) || decide (w = 3) || decide (w = 4)) && inB v 0 1)
def OK (σ : ST) : Prop := RgF (s_F σ) ∧ ((s_r σ).length ≤ 40 ∧ wfd (s_r σ) 0) ∧ (∀ i, (s_T σ).getD i 0 < 256) ∧ (∀ R, R ∈ s_U σ → RgR (f_n (s_F σ)) R) ∧ (∀ i R, i < 3 → s_K σ i = some R → RgR (f_n (s_F σ)) R) ∧ (∀ x, x ∈ s_S σ → hasF (s_F σ) x.1 = true ∧ inB x.2.1 0 20 = true ∧ inB x.2.2 (-9) 9 = true) ∧ ∀ x, x ∈ s_H σ → hokB x.1 x.2 = true
def Sim (σ : ST) (R : List Int64) (μ : Mm) : Prop := OK σ ∧ CS σ μ ∧ MS σ μ ∧ ToC R μ ∧ ToM R μ
def Call (pc pm : Prop) (vc vm : Int32) (μ' : Mm) : Prop := pc ∧ pm ∧ vc = vm ∧ ∃ σ R, Sim σ R μ'
theorem CS.F {σ : ST} {μ : Mm} (h : CS σ μ) : FlC 1 (s_F σ) μ := h.1
theorem CS.r {σ : ST} {μ : Mm} (h : CS σ μ) : RuC 15 (s_r σ) μ := h.2.1
theorem CS.T {σ : ST} {μ : Mm} (h : CS σ μ) : TxC (s_T σ) μ := h.2.2.1
theorem CS.U {σ : ST} {μ : Mm} (h : CS σ μ) : UnC (s_U σ) μ := h.2.2.2.1
theorem CS.K {σ : ST} {μ : Mm} (h : CS σ μ) : KeC (s_K σ) μ := h.2.2.2.2.1
theorem CS.S {σ : ST} {μ : Mm} (h : CS σ μ) : SeC (s_S σ) μ := h.2.2.2.2.2.1
theorem CS.H {σ : ST} {μ : Mm} (h : CS σ μ) : HeC (s_H σ) μ := h.2.2.2.2.2.2
theorem MS.F {σ : ST} {μ : Mm} (h : MS σ μ) : FlM 52 (s_F σ) μ := h.1
theorem MS.r {σ : ST} {μ : Mm} (h : MS σ μ) : RuM (s_r σ) μ := h.2.1
theorem MS.T {σ : ST} {μ : Mm} (h : MS σ μ) : TxM (s_T σ) μ := h.2.2.1
theorem MS.U {σ : ST} {μ : Mm} (h : MS σ μ) : UnM (s_U σ) μ := h.2.2.2.1
theorem MS.K {σ : ST} {μ : Mm} (h : MS σ μ) : KeM (s_K σ) (f_n (s_F σ)) μ := h.2.2.2.2.1
theorem MS.S {σ : ST} {μ : Mm} (h : MS σ μ) : SeM (s_S σ) μ := h.2.2.2.2.2.1
theorem MS.H {σ : ST} {μ : Mm} (h : MS σ μ) : HeM (s_H σ) μ := h.2.2.2.2.2.2
theorem OK.g {σ : ST} (h : OK σ) : RgF (s_F σ) := h.1
theorem OK.rl {σ : ST} (h : OK σ) : (s_r σ).length ≤ 40 := h.2.1.1
theorem OK.rw {σ : ST} (h : OK σ) : wfd (s_r σ) 0 := h.2.1.2
/-! frames -/
theorem TxC.fr {T : List Nat} {μ μ' : Mm} {S : List Nat} (h : TxC T μ) (f : Fr S μ μ') (hb : 25 ∉ S ∧ 26 ∉ S) : TxC T μ' := by
  unfold TxC; rw [f.1 25 hb.1, f.1 26 hb.2]; exact h
theorem SeC.fr {T : List Sg} {μ μ' : Mm} {S : List Nat} (h : SeC T μ) (f : Fr S μ μ') (hb : 38 ∉ S ∧ 39 ∉ S ∧ 40 ∉ S ∧ 41 ∉ S) : SeC T μ' := by
  unfold SeC; rw [f.1 38 hb.1, f.1 39 hb.2.1, f.1 40 hb.2.2.1, f.1 41 hb.2.2.2]; exact h
theorem HeC.fr {T : List Hs} {μ μ' : Mm} {S : List Nat} (h : HeC T μ) (f : Fr S μ μ') (hb : 42 ∉ S ∧ 43 ∉ S ∧ 44 ∉ S) : HeC T μ' := by
  unfold HeC; rw [f.1 42 hb.1, f.1 43 hb.2.1, f.1 44 hb.2.2]; exact h
theorem KeC.fr {K : Nat → Option Rw} {μ μ' : Mm} {S : List Nat} (h : KeC K μ) (f : Fr S μ μ') (hb : 31 ∉ S ∧ 32 ∉ S) : KeC K μ' := by
  intro i hi
  rw [f.1 32 hb.2]
  exact ⟨(h i hi).1, fun R hR => ((h i hi).2 R hR).fr f hb.1⟩
theorem ToC.fr {R : List Int64} {μ μ' : Mm} {S : List Nat} (h : ToC R μ) (f : Fr S μ μ') (hb : 27 ∉ S ∧ 28 ∉ S) : ToC R μ' := by
  unfold ToC; rw [f.1 27 hb.1, f.2 28 hb.2]; exact h
theorem TxM.fs {T : List Nat} {μ μ' : Mm} {S : List Nat} (h : TxM T μ) (f : Fs S μ μ') (hb : 49 ∉ S ∧ 54 ∉ S ∧ 1009 ∉ S) : TxM T μ' := by
  unfold TxM
  rw [f.1 49 9 hb.1 (.inr hb.2.2)]
  simp only [f.1 54 _ hb.2.1 (.inl (by decide))]
  exact h
theorem SeM.fs {T : List Sg} {μ μ' : Mm} {S : List Nat} (h : SeM T μ) (f : Fs S μ μ') (hb : 49 ∉ S ∧ 67 ∉ S ∧ 68 ∉ S ∧ 69 ∉ S ∧ 1031 ∉ S) : SeM T μ' := by
  unfold SeM
  rw [f.1 49 31 hb.1 (.inr hb.2.2.2.2)]
  simp only [f.1 67 _ hb.2.1 (.inl (by decide)), f.1 68 _ hb.2.2.1 (.inl (by decide)), f.1 69 _ hb.2.2.2.1 (.inl (by decide))]
  exact h
theorem HeM.fs {T : List Hs} {μ μ' : Mm} {S : List Nat} (h : HeM T μ) (f : Fs S μ μ') (hb : 49 ∉ S ∧ 71 ∉ S ∧ 72 ∉ S ∧ 1036 ∉ S) : HeM T μ' := by
  unfold HeM
  rw [f.1 49 36 hb.1 (.inr hb.2.2.2)]
  simp only [f.1 71 _ hb.2.1 (.inl (by decide)), f.1 72 _ hb.2.2.1 (.inl (by decide))]
  exact h
theorem KeM.fs {K : Nat → Option Rw} {n : Nat} {μ μ' : Mm} {S : List Nat} (h : KeM K n μ) (f : Fs S μ μ') (hb : 49 ∉ S ∧ 75 ∉ S ∧ 76 ∉ S ∧ 77 ∉ S ∧ 1004 ∉ S) : KeM K n μ' := by
  obtain ⟨c, h1, h2, h3⟩ := h
  refine ⟨c, h1, by rw [f.1 49 4 hb.1 (.inr hb.2.2.2.2)]; exact h2, fun i hi => ?_⟩
  rw [f.1 75 _ hb.2.1 (.inl (by decide)), f.1 76 _ hb.2.2.1 (.inl (by decide))]
  obtain ⟨q1, q2, q3⟩ := h3 i hi
  exact ⟨fun R hR => ⟨(q1 R hR).1, (q1 R hR).2.1, (q1 R hR).2.2.fs f hb.2.2.2.1 (by decide)⟩, q2, q3⟩
theorem ToM.fs {R : List Int64} {μ μ' : Mm} {S : List Nat} (h : ToM R μ) (f : Fs S μ μ') (hb : 49 ∉ S ∧ 50 ∉ S ∧ 1001 ∉ S) : ToM R μ' := by
  unfold ToM; rw [f.1 49 1 hb.1 (.inr hb.2.2), f.2 50 hb.2.1]; exact h
/-- the class's cells that hold no state (27 and 28, the row, among them) -/
def scrC : List Nat := [6, 7, 8, 9, 10, 11, 12, 13, 14, 17, 18, 19, 20, 21, 22, 23, 24, 27, 28, 33, 34, 35, 36, 37, 45, 46, 47, 48]
def scrM : List Nat := [50, 53, 55, 56, 58, 59, 60, 62, 63, 64, 65, 66, 70, 73, 74, 78, 1000, 1001, 1010, 1011, 1012, 1013, 1016, 1020, 1029, 1041]
def stC : List Nat := [1, 2, 3, 4, 5, 15, 16, 25, 26, 29, 30, 31, 32, 38, 39, 40, 41, 42, 43, 44]
def stM : List Nat := [49, 51, 52, 54, 57, 61, 67, 68, 69, 71, 72, 75, 76, 77, 1003, 1004, 1009, 1019, 1023, 1031, 1036]
theorem not_scr {L : List Nat} {c : Nat} (h : ∀ x, x ∈ L → x ∈ scrC) (hc : c ∉ scrC) : c ∉ L := fun q => hc (h c q)
theorem not_scrM {L : List Nat} {c : Nat} (h : ∀ x, x ∈ L → x ∈ scrM) (hc : c ∉ scrM) : c ∉ L := fun q => hc (h c q)
theorem CS.fr {σ : ST} {μ μ' : Mm} {L : List Nat} (h : CS σ μ) (f : Fr L μ μ') (hL : ∀ x, x ∈ L → x ∈ scrC) : CS σ μ' := by
  have n : ∀ {c}, c ∉ scrC → c ∉ L := fun hc => not_scr hL hc
  exact ⟨h.F.fr f ⟨n (by decide), n (by decide), n (by decide), n (by decide), n (by decide)⟩, h.r.fr f ⟨n (by decide), n (by decide)⟩, h.T.fr f ⟨n (by decide), n (by decide)⟩, h.U.fr f ⟨n (by decide), n (by decide)⟩, h.K.fr f ⟨n (by decide), n (by decide)⟩, h.S.fr f ⟨n (by decide), n (by decide), n (by decide), n (by decide)⟩, h.H.fr f ⟨n (by decide), n (by decide), n (by decide)⟩⟩
theorem MS.fs {σ : ST} {μ μ' : Mm} {L : List Nat} (h : MS σ μ) (f : Fs L μ μ') (hL : ∀ x, x ∈ L → x ∈ scrM) : MS σ μ' := by
  have n : ∀ {c}, c ∉ scrM → c ∉ L := fun hc => not_scrM hL hc
  exact ⟨h.F.fs f ⟨n (by decide), by decide, n (by decide), n (by decide), n (by decide)⟩, h.r.fs f ⟨n (by decide), n (by decide), n (by decide)⟩, h.T.fs f ⟨n (by decide), n (by decide), n (by decide)⟩, h.U.fs f ⟨n (by decide), n (by decide), n (by decide)⟩, h.K.fs f ⟨n (by decide), n (by decide), n (by decide), n (by decide), n (by decide)⟩, h.S.fs f ⟨n (by decide), n (by decide), n (by decide), n (by decide), n (by decide)⟩, h.H.fs f ⟨n (by decide), n (by decide), n (by decide), n (by decide)⟩⟩
/-- what the class writes, the model's part doesn't see -/
theorem MS.frC {σ : ST} {μ μ' : Mm} {L : List Nat} (h : MS σ μ) (f : Fr L μ μ') (hL : ∀ x, x ∈ L → x < 49) : MS σ μ' := by
  have n : ∀ {c}, 49 ≤ c → c ∉ L := fun hc q => by have := hL _ q; omega
  exact ⟨h.F.fs f.s ⟨n (by decide), by decide, n (by decide), n (by decide), n (by decide)⟩, h.r.fs f.s ⟨n (by decide), n (by decide), n (by decide)⟩, h.T.fs f.s ⟨n (by decide), n (by decide), n (by decide)⟩, h.U.fs f.s ⟨n (by decide), n (by decide), n (by decide)⟩, h.K.fs f.s ⟨n (by decide), n (by decide), n (by decide), n (by decide), n (by decide)⟩, h.S.fs f.s ⟨n (by decide), n (by decide), n (by decide), n (by decide), n (by decide)⟩, h.H.fs f.s ⟨n (by decide), n (by decide), n (by decide), n (by decide)⟩⟩
theorem ToM.frC {R : List Int64} {μ μ' : Mm} {L : List Nat} (h : ToM R μ) (f : Fr L μ μ') (hL : ∀ x, x ∈ L → x < 49) : ToM R μ' := by
  have n : ∀ {c}, 49 ≤ c → c ∉ L := fun hc q => by have := hL _ q; omega
  exact h.fs f.s ⟨n (by decide), n (by decide), n (by decide)⟩
/-- a frame by fields that leaves the class alone is one by cells, as the class sees it -/
theorem Fs.c {S : List Nat} {μ μ' : Mm} (h : Fs S μ μ') (hS : ∀ x, x ∈ S → 49 ≤ x) : (∀ k, k < 49 → μ'.1 k = μ.1 k) ∧ ∀ k, k < 49 → μ'.2 k = μ.2 k :=
  ⟨fun k hk => funext (fun j => h.1 k j (fun q => by have := hS _ q; omega) (.inl (by omega))), fun k hk => h.2 k (fun q => by have := hS _ q; omega)⟩
def Fc (μ μ' : Mm) : Prop := (∀ k, k < 49 → μ'.1 k = μ.1 k) ∧ ∀ k, k < 49 → μ'.2 k = μ.2 k
theorem Fs.fc {S : List Nat} {μ μ' : Mm} (h : Fs S μ μ') (hS : ∀ x, x ∈ S → 49 ≤ x) : Fc μ μ' := h.c hS
/-- as a frame of cells: all cells of the model and beyond are left out -/
theorem CS.fc {σ : ST} {μ μ' : Mm} (h : CS σ μ) (f : Fc μ μ') : CS σ μ' := by
  obtain ⟨f1, f2⟩ := f
  obtain ⟨h1, h2, h3, h4, h5, h6, h7⟩ := h
  refine ⟨?_, ?_, ?_, ?_, ?_, ?_, ?_⟩
  · unfold FlC; rw [f1 1 (by decide), f1 (1 + 1) (by decide), f1 (1 + 2) (by decide), f1 (1 + 3) (by decide), f1 (1 + 4) (by decide)]; exact h1
  · unfold RuC; rw [f1 15 (by decide), f1 (15 + 1) (by decide)]; exact h2
  · unfold TxC; rw [f1 25 (by decide), f1 26 (by decide)]; exact h3
  · unfold UnC RwC; rw [f1 29 (by decide), f1 30 (by decide)]; exact h4
  · unfold KeC RwC; rw [f1 31 (by decide), f1 32 (by decide)]; exact h5
  · unfold SeC; rw [f1 38 (by decide), f1 39 (by decide), f1 40 (by decide), f1 41 (by decide)]; exact h6
  · unfold HeC; rw [f1 42 (by decide), f1 43 (by decide), f1 44 (by decide)]; exact h7
theorem ToC.fc {R : List Int64} {μ μ' : Mm} (h : ToC R μ) (f : Fc μ μ') : ToC R μ' := by
  unfold ToC; rw [f.1 27 (by decide), f.2 28 (by decide)]; exact h
/-- a call that only tells -/
theorem Qry {σ : ST} {R R' : List Int64} {μ μ1 μ2 : Mm} {LC LM : List Nat} (h : Sim σ R μ) (fC : Fr LC μ μ1) (fM : Fs LM μ1 μ2) (tC : ToC R' μ1) (tM : ToM R' μ2) (dC : ∀ x, x ∈ LC → x ∈ scrC) (dM : ∀ x, x ∈ LM → x ∈ scrM) : ∃ σ R, Sim σ R μ2 := by
  have hc : ∀ x, x ∈ LC → x < 49 := fun x hx => by
    have := dC x hx
    revert this
    exact (by decide : ∀ x, x ∈ scrC → x < 49) x
  have hm : ∀ x, x ∈ LM → 49 ≤ x := fun x hx => (by decide : ∀ x, x ∈ scrM → 49 ≤ x) x (dM x hx)
  exact ⟨σ, R', h.1, (h.2.1.fr fC dC).fc (fM.fc hm), (h.2.2.1.frC fC hc).fs fM dM, tC.fc (fM.fc hm), tM⟩
/-! the row -/
theorem ToC_0 (μ : Mm) : ToC [] (e_X10_begin μ) := by
  unfold e_X10_begin
  refine ⟨by simp, ?_, fun i hi => absurd hi (by simp)⟩
  dsimp only
  rw [rI, if_pos ⟨rfl, rfl⟩]; rfl
theorem ToM_0 (μ : Mm) : ToM [] (upI μ 49 1 0) := by
  refine ⟨by simp, ?_, fun i hi => absurd hi (by simp)⟩
  rw [rI, if_pos ⟨rfl, rfl⟩]; rfl
theorem getD_app {R : List Int64} {x : Int64} {i : Nat} (hi : i < (R ++ [x]).length) : (R ++ [x]).getD i 0 = if i = R.length then x else R.getD i 0 := by
  simp only [List.length_append, List.length_cons, List.length_nil] at hi
  by_cases e : i = R.length
  · subst e; simp [List.getD]
  · rw [if_neg e]
    simp [List.getD, List.getElem?_append, show i < R.length by omega]
theorem C_add {R : List Int64} {μ : Mm} (h : ToC R μ) (hl : R.length < 16) (x : Int64) : p_X10_add x μ ∧ ToC (R ++ [x]) (e_X10_add x μ) := by
  obtain ⟨h1, h2, h3⟩ := h
  unfold p_X10_add e_X10_add
  rw [h2]
  have g : ¬ ((16 : Int32) ≤ nI R.length) := nI_ge (b := 16) hl (by omega)
  simp only [if_neg g, nI_clamp (show R.length < 2 ^ 31 by omega)]
  refine ⟨fun _ => vp_in_nI (by omega) (by omega), by simp; omega, ?_, fun i hi => ?_⟩
  · rw [rI, if_pos ⟨rfl, rfl⟩]
    show (upJ _ 28 _ x).1 27 1 + 1 = _
    rw [rJ1, h2, nI_1]; simp
  · rw [rI2, rJ, getD_app hi]
    simp only [List.length_append, List.length_cons, List.length_nil] at hi
    by_cases e : i = R.length
    · rw [if_pos ⟨rfl, e⟩, if_pos e]
    · rw [if_neg (fun z => e z.2), if_neg e]
      exact h3 i (by omega)
theorem M_enters {R : List Int64} {μ : Mm} (h : ToM R μ) (hl : R.length < 16) (x : Int64) : p_X12_enters x μ ∧ ToM (R ++ [x]) (e_X12_enters x μ) := by
  obtain ⟨h1, h2, h3⟩ := h
  unfold p_X12_enters e_X12_enters
  rw [h2]
  simp only [nI_clamp (show R.length < 2 ^ 31 by omega)]
  refine ⟨vp_in_nI (by omega) (by omega), by simp; omega, ?_, fun i hi => ?_⟩
  · rw [rI, if_pos ⟨rfl, rfl⟩]
    show (upJ _ 50 _ x).1 49 1 + 1 = _
    rw [rJ1, h2, nI_1]; simp
  · rw [rI2, rJ, getD_app hi]
    simp only [List.length_append, List.length_cons, List.length_nil] at hi
    by_cases e : i = R.length
    · rw [if_pos ⟨rfl, e⟩, if_pos e]
    · rw [if_neg (fun z => e z.2), if_neg e]
      exact h3 i (by omega)

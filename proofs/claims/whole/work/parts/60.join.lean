/-! people who join -/
def jnF (T : List Nat) (e : Nat) (F : FL) (k : Nat) : FL := (f_n F + k, (fun i => if f_n F ≤ i ∧ i < f_n F + k then dgI T (4 * (i - f_n F)) else f_w F i), (fun i => if f_n F ≤ i ∧ i < f_n F + k then sgV T (4 * (i - f_n F) + 1) e else f_h F i), f_p F, f_k F, f_o F, f_t F, f_z F)
/-- one more -/
def Jnd (G H : FL) (v w : Int32) : Prop := f_n H = f_n G + 1 ∧ (∀ i, i < 7 → f_w H i = if i = f_n G then v else f_w G i) ∧ (∀ i, i < 7 → f_h H i = if i = f_n G then w else f_h G i) ∧ (∀ i, i < 7 → f_p H i = f_p G i) ∧ (∀ i, i < 7 → f_k H i = f_k G i) ∧ f_o H = f_o G ∧ f_t H = f_t G ∧ f_z H = f_z G
theorem jnF_s (T : List Nat) (e : Nat) (F : FL) (k : Nat) : Jnd (jnF T e F k) (jnF T e F (k + 1)) (dgI T (4 * k)) (sgV T (4 * k + 1) e) := by
  refine ⟨rfl, fun i hi => ?_, fun i hi => ?_, fun _ _ => rfl, fun _ _ => rfl, rfl, rfl, rfl⟩
  · show (if f_n F ≤ i ∧ i < f_n F + (k + 1) then dgI T (4 * (i - f_n F)) else f_w F i) = if i = f_n F + k then dgI T (4 * k) else if f_n F ≤ i ∧ i < f_n F + k then dgI T (4 * (i - f_n F)) else f_w F i
    by_cases q : i = f_n F + k
    · rw [if_pos q, if_pos (by omega), show i - f_n F = k by omega]
    · rw [if_neg q]
      by_cases z : f_n F ≤ i ∧ i < f_n F + k
      · rw [if_pos z, if_pos (by omega)]
      · rw [if_neg z, if_neg (by omega)]
  · show (if f_n F ≤ i ∧ i < f_n F + (k + 1) then sgV T (4 * (i - f_n F) + 1) e else f_h F i) = if i = f_n F + k then sgV T (4 * k + 1) e else if f_n F ≤ i ∧ i < f_n F + k then sgV T (4 * (i - f_n F) + 1) e else f_h F i
    by_cases q : i = f_n F + k
    · rw [if_pos q, if_pos (by omega), show i - f_n F = k by omega]
    · rw [if_neg q]
      by_cases z : f_n F ≤ i ∧ i < f_n F + k
      · rw [if_pos z, if_pos (by omega)]
      · rw [if_neg z, if_neg (by omega)]
theorem C_join {G H : FL} {μ : Mm} {v w : Int32} (h : FlC 1 G μ) (hn : f_n G < 7) (hp : f_p G (f_n G) = 0) (hk : f_k G (f_n G) = 0) (ho : bt (f_o G) (f_n G) = false) (hJ : Jnd G H v w) : p_X1_join 1 v w μ ∧ FlC 1 H (e_X1_join 1 v w μ) := by
  have g : ¬ ((7 : Int32) ≤ nI (f_n G)) := nI_ge (b := 7) hn (by omega)
  have hs := h.sz
  have hoo := h.o
  have eo : f_o G &&& ((1 <<< (nI (f_n G) &&& 31)) ^^^ (-1)) = f_o G := by
    apply b_ext
    intro i hi
    rw [b_and, bt_not _ hi, bt_one _ (by omega) i hi]
    by_cases q : i = f_n G
    · rw [q, ho]; rfl
    · rw [decide_eq_false q]; simp
  have e1 : e_X1_join 1 v w μ = upI (upI (upI (upI (upI (upI μ 2 (f_n G) v) 3 (f_n G) w) 4 (f_n G) 0) 5 (f_n G) 0) 1 5 (f_o G)) 1 0 (nI (f_n G + 1)) := by
    unfold e_X1_join
    simp (disch := omega) only [rI, if_neg, hs, hoo, nI_clamp, eo, nI_1, g, if_false]
  obtain ⟨j1, j2, j3, j4, j5, j6, j7, j8⟩ := hJ
  have vi : vp_in (nI (f_n G)) 7 := vp_in_nI hn (by omega)
  refine ⟨?_, ?_⟩
  · unfold p_X1_join
    simp only [forall_eq]
    simp (disch := omega) only [rI, if_neg, hs]
    exact fun _ => ⟨vi, vi, vi, vi⟩
  · rw [e1]
    refine ⟨by omega, ?_, fun i hi => ?_, fun i hi => ?_, fun i hi => ?_, fun i hi => ?_, ?_, ?_, ?_⟩
    · rw [rI, if_pos ⟨rfl, rfl⟩, j1]
    · rw [j2 i hi]
      simp (disch := omega) only [rI, if_neg]
      by_cases q : i = f_n G
      · rw [if_pos q, if_pos ⟨trivial, q⟩]
      · rw [if_neg q, if_neg (fun y => q y.2)]; exact h.w hi
    · rw [j3 i hi]
      simp (disch := omega) only [rI, if_neg]
      by_cases q : i = f_n G
      · rw [if_pos q, if_pos ⟨trivial, q⟩]
      · rw [if_neg q, if_neg (fun y => q y.2)]; exact h.h hi
    · rw [j4 i hi]
      simp (disch := omega) only [rI, if_neg]
      by_cases q : i = f_n G
      · rw [if_pos ⟨trivial, q⟩, q, hp]
      · rw [if_neg (fun y => q y.2)]; exact h.p hi
    · rw [j5 i hi]
      simp (disch := omega) only [rI, if_neg]
      by_cases q : i = f_n G
      · rw [if_pos ⟨trivial, q⟩, q, hk]
      · rw [if_neg (fun y => q y.2)]; exact h.k hi
    · rw [rI, if_neg (by omega), rI, if_pos ⟨rfl, rfl⟩, j6]
    · rw [j7]
      simp (disch := omega) only [rI, if_neg]; exact h.t
    · rw [j8]
      simp (disch := omega) only [rI, if_neg]; exact h.z
theorem sgV_eq {T : List Nat} {a e : Nat} (h : a < e) (hc : chT T a = 43 ∨ chT T a = 45) : sgV T a e = if chT T a = 45 then -dgI T (a + 1) else dgI T (a + 1) := by
  unfold sgV wxO
  rw [if_pos h]
  have el : ([45, 43] : List Nat).length = 1 + 1 := rfl
  rcases hc with x | x
  · have n0 : (fun j => decide (([45, 43] : List Nat).getD j 0 = chT T a)) 0 = false := decide_eq_false (fun y => by rw [x] at y; exact absurd y (by decide))
    rw [el, ff_n (P := fun j => decide (([45, 43] : List Nat).getD j 0 = chT T a)) n0, show (1 : Nat) = 0 + 1 from rfl, ff_y (P := fun j => decide (([45, 43] : List Nat).getD j 0 = chT T a)) (decide_eq_true (by rw [x]; rfl)), if_pos rfl, if_neg (by omega)]
  · rw [el, ff_y (P := fun j => decide (([45, 43] : List Nat).getD j 0 = chT T a)) (decide_eq_true (by rw [x]; rfl)), if_neg (by decide), if_pos x]
section JN
variable {T : List Nat} {F : FL} {μ : Mm}
theorem C_pp41 {room L : Nat} (h : FlC 1 F μ) (hg : RgF F) (hx : TxC T μ) (hT : ∀ i, chT T i < 256) (hL : T.length = 4 * L + 3) (hn : f_n F + (L + 1) ≤ 7) (hs : ∀ j, j < T.length → stL T room j = true) (x : Int32) : whP (fun s : Int32 × Int32 × Int32 × Mm => bd_X11_people_41 s.1 s.2.1 s.2.2.1 s.2.2.2) (fun s : Int32 × Int32 × Int32 × Mm => sd_X11_people_41 s.1 s.2.1 s.2.2.1 s.2.2.2) FU (x, nI (L + 1), 0, μ) ∧ (fun z : Int32 × Int32 × Mm => z.1 = x ∧ z.2.1 = nI (L + 1) ∧ FlC 1 (jnF T T.length F (L + 1)) z.2.2) (whl (fun s : Int32 × Int32 × Int32 × Mm => bd_X11_people_41 s.1 s.2.1 s.2.2.1 s.2.2.2) (fun s : Int32 × Int32 × Int32 × Mm => (0, 0, s.2.2.2)) FU (x, nI (L + 1), 0, μ)) := by
  have hl := hx.1
  have j0 : jnF T T.length F 0 = F := by
    unfold jnF
    have a1 : (fun i => if f_n F ≤ i ∧ i < f_n F + 0 then dgI T (4 * (i - f_n F)) else f_w F i) = f_w F := funext (fun i => if_neg (by omega))
    have a2 : (fun i => if f_n F ≤ i ∧ i < f_n F + 0 then sgV T (4 * (i - f_n F) + 1) T.length else f_h F i) = f_h F := funext (fun i => if_neg (by omega))
    rw [a1, a2]; rfl
  refine lpI (f := fun s : Int32 × Int32 × Int32 × Mm => bd_X11_people_41 s.1 s.2.1 s.2.2.1 s.2.2.2) (sd := fun s : Int32 × Int32 × Int32 × Mm => sd_X11_people_41 s.1 s.2.1 s.2.2.1 s.2.2.2) (dd := fun s : Int32 × Int32 × Int32 × Mm => (0, 0, s.2.2.2)) (I := fun i s => i ≤ L + 1 ∧ ∃ μ', s = (x, nI (L + 1), nI i, μ') ∧ FlC 1 (jnF T T.length F i) μ' ∧ Fr [1, 2, 3, 4, 5] μ μ')
    (R := fun z : Int32 × Int32 × Mm => z.1 = x ∧ z.2.1 = nI (L + 1) ∧ FlC 1 (jnF T T.length F (L + 1)) z.2.2) (L + 1) (by omega) ?_ (s0 := (x, nI (L + 1), 0, μ)) ⟨Nat.zero_le _, μ, rfl, by rw [j0]; exact h, Fr.rfl⟩
  rintro i _ hi ⟨hi2, μ', rfl, hf, hfr⟩
  dsimp only
  unfold sd_X11_people_41 bd_X11_people_41
  have e4 : nI i * 4 = nI (4 * i) := by rw [show (4 : Int32) = nI 4 from rfl, nI_mul, Nat.mul_comm]
  rw [e4]
  simp only [nI_leI (show L + 1 < 2 ^ 31 by omega) (show i < 2 ^ 31 by omega), nI_1]
  rcases Nat.lt_or_ge i (L + 1) with z | z
  · have hx' : TxC T μ' := hx.fr hfr (by decide)
    obtain ⟨a1, a2⟩ := C_at hx' hT (i := 4 * i) (by omega)
    obtain ⟨b1, b2⟩ := C_at hx' hT (i := 4 * i + 1) (by omega)
    obtain ⟨c1, c2⟩ := C_at hx' hT (i := 4 * i + 1 + 1) (by omega)
    have hT1 := hT (4 * i + 1)
    have ev : v_X9_digit (nI (4 * i)) μ' = dgI T (4 * i) := by unfold v_X9_digit; rw [a2]; rfl
    have st := hs (4 * i + 1) (by omega)
    rw [st1] at st
    have hc : chT T (4 * i + 1) = 43 ∨ chT T (4 * i + 1) = 45 := by
      simpa only [Bool.or_eq_true, decide_eq_true_eq] using st
    have es : v_X9_signed (nI (4 * i + 1)) 45 μ' = sgV T (4 * i + 1) T.length := by
      rw [sgV_eq (by omega) hc]
      unfold v_X9_signed v_X9_digit
      have c45 : (nI (chT T (4 * i + 1)) = 45) ↔ chT T (4 * i + 1) = 45 := nI_eq (b := 45) (by omega) (by omega)
      rw [b2, nI_1, c2]
      simp only [c45]; rfl
    have hz := hg.2.2.2.2 (f_n F + i) (by omega) (by omega)
    obtain ⟨d1, d2⟩ := C_join (v := dgI T (4 * i)) (w := sgV T (4 * i + 1) T.length) hf (show f_n F + i < 7 by omega) hz.2.2.1 hz.2.2.2 (hg.2.2.2.1 (f_n F + i) (by omega) (by omega)) (jnF_s T T.length F i)
    rw [if_neg (by omega), ev, es]
    refine ⟨fun _ => ⟨a1, ⟨b1, ⟨fun _ => ?_, fun _ => ?_⟩⟩, d1⟩, .inl ⟨_, rfl, z, z, _, rfl, d2, hfr.call (fr_X1_join 1 _ _ _) (by decide)⟩⟩
    · rw [nI_1]; exact c1
    · rw [nI_1]; exact c1
  · have e : i = L + 1 := by omega
    rw [e] at hf
    rw [if_pos z]
    exact ⟨fun y => absurd z y, .inr ⟨_, rfl, rfl, rfl, hf⟩⟩
theorem M_pp81 {e L : Nat} (h : FlM 52 F μ) (hg : RgF F) (h16 : μ.1 49 16 = nI L) (hl : lnM T e L μ) (hn : f_n F + L ≤ 7) : whP (fun s : Int32 × Mm => bd_X12_people_81 s.1 s.2) (fun s : Int32 × Mm => sd_X12_people_81 s.1 s.2) FU (0, μ) ∧ (fun z : Mm => FlM 52 (jnF T e F L) z) (whl (fun s : Int32 × Mm => bd_X12_people_81 s.1 s.2) (fun s : Int32 × Mm => s.2) FU (0, μ)) := by
  have j0 : jnF T e F 0 = F := by
    unfold jnF
    have a1 : (fun i => if f_n F ≤ i ∧ i < f_n F + 0 then dgI T (4 * (i - f_n F)) else f_w F i) = f_w F := funext (fun i => if_neg (by omega))
    have a2 : (fun i => if f_n F ≤ i ∧ i < f_n F + 0 then sgV T (4 * (i - f_n F) + 1) e else f_h F i) = f_h F := funext (fun i => if_neg (by omega))
    rw [a1, a2]; rfl
  refine lpI (f := fun s : Int32 × Mm => bd_X12_people_81 s.1 s.2) (sd := fun s : Int32 × Mm => sd_X12_people_81 s.1 s.2) (dd := fun s : Int32 × Mm => s.2) (I := fun i s => i ≤ L ∧ ∃ μ', s = (nI i, μ') ∧ FlM 52 (jnF T e F i) μ' ∧ Fs [51, 52, 1003] μ μ')
    (R := fun z : Mm => FlM 52 (jnF T e F L) z) L (by omega) ?_ (s0 := (0, μ)) ⟨Nat.zero_le _, μ, rfl, by rw [j0]; exact h, Fs.rfl⟩
  rintro i _ hi ⟨hi2, μ', rfl, hf, hfr⟩
  dsimp only
  unfold sd_X12_people_81 bd_X12_people_81
  have k16 : μ'.1 49 16 = nI L := by rw [hfr.1 49 16 (by decide) (.inr (by decide))]; exact h16
  have ksz : μ'.1 49 3 = nI (f_n F + i) := hf.sz
  rw [k16]
  simp only [forall_eq, nI_leI (show L < 2 ^ 31 by omega) (show i < 2 ^ 31 by omega), nI_1]
  rcases Nat.lt_or_ge i L with z | z
  · obtain ⟨l1, l2⟩ := hl i z
    have k55 : μ'.1 55 i = dgI T (4 * i) := by rw [hfr.1 55 i (by decide) (.inl (by decide))]; exact l1
    have k56 : μ'.1 56 i = sgV T (4 * i + 1) e := by rw [hfr.1 56 i (by decide) (.inl (by decide))]; exact l2
    simp (disch := omega) only [rI, if_neg, ksz, nI_clamp, k55, k56, nI_1]
    obtain ⟨j1, j2, j3, j4, j5, j6, j7, j8⟩ := jnF_s T e F i
    have jn : f_n (jnF T e F i) = f_n F + i := rfl
    rw [jn] at j2 j3
    refine ⟨fun _ => ⟨vp_in_nI (by omega) (by omega), vp_in_nI (by omega) (by omega), vp_in_nI (by omega) (by omega), vp_in_nI (by omega) (by omega)⟩, .inl ⟨_, rfl, z, z, _, rfl, ⟨by omega, ?_, fun j hj => ?_, fun j hj => ?_, fun j hj => ?_, fun j hj => ?_, ?_, ?_, ?_⟩, ((hfr.up (by simp)).up (by simp)).upF (by simp)⟩⟩
    · rw [rI, if_pos ⟨rfl, rfl⟩]; rfl
    · rw [j2 j hj]
      simp (disch := omega) only [rI, if_neg]
      by_cases q : j = f_n F + i
      · rw [if_pos q, if_pos ⟨trivial, q⟩]
      · rw [if_neg q, if_neg (fun y => q y.2)]; exact hf.w hj
    · rw [j3 j hj]
      simp (disch := omega) only [rI, if_neg]
      by_cases q : j = f_n F + i
      · rw [if_pos q, if_pos ⟨trivial, q⟩]
      · rw [if_neg q, if_neg (fun y => q y.2)]; exact hf.h hj
    · rw [j4 j hj]
      simp (disch := omega) only [rI, if_neg]
      exact hf.p hj
    · rw [j5 j hj]
      simp (disch := omega) only [rI, if_neg]
      exact hf.k hj
    · rw [j6]
      simp (disch := omega) only [rI, if_neg]
      exact hf.o
    · rw [j7]
      simp (disch := omega) only [rI, if_neg]
      exact hf.t
    · rw [j8]
      simp (disch := omega) only [rI, if_neg]
      exact hf.z
  · have e : i = L := by omega
    rw [e] at hf
    rw [if_pos z]
    exact ⟨fun y => absurd z y, .inr ⟨_, rfl, hf⟩⟩
end JN

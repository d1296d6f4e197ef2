/-! the start: the memory behind the constructors, and the state that it is -/
def fl0 : Nat → Int32 := upd (fun _ => 0) 7 12
def ruf0 : Nat → Int32 := fun j => if j = 1 then 3 else if j = 5 then 1 else 0
def mu0 : Mm := (fun k => if k = 1 then fl0 else if k = 8 then fl0 else if k = 15 then ruf0 else if k = 20 then ruf0 else if k = 16 then upd (upd (upd (fun _ => 0) 0 (-1)) 1 (-2)) 2 (-45) else if k = 21 then upd (upd (upd (fun _ => 0) 0 (-1)) 1 (-2)) 2 (-45) else if k = 52 then upd (fun _ => 0) 23 12 else fun _ => 0, fun _ _ => 0)
def adr (h : Nat) (a : Nat → Nat) (h' : Nat) (a' : Nat → Nat) (q : Nat) : Nat → Nat := fun k => if k = 0 then h else if k < 49 then a k else if k = 49 then h' else if k < 78 then a' (k - 49) else q
def mapK (E : Ex) (μ : Mm) : Nat → List Ds → va_W
  | _, [] => []
  | k, d :: r => (E.2.2.2.1 k, en E μ k d) :: mapK E μ (k + 1) r
theorem mapK_at {E : Ex} {μ : Mm} : ∀ (l : List Ds) (k i : Nat), (mapK E μ k l)[i]? = (l[i]?).map (fun d => (E.2.2.2.1 (k + i), en E μ (k + i) d))
  | [], k, i => by simp [mapK]
  | d :: r, k, 0 => by simp [mapK]
  | d :: r, k, i + 1 => by
    simp only [mapK, List.getElem?_cons_succ]
    rw [mapK_at r (k + 1) i, show k + 1 + i = k + (i + 1) by omega]
theorem wld_mapK {E : Ex} {μ : Mm} : wld E μ = mapK E μ 0 dscL := by
  refine List.ext_getElem? (fun i => ?_)
  rw [mapK_at, Nat.zero_add]
  simp [wld, List.getElem?_mapIdx]
theorem mapK_app {E : Ex} {μ : Mm} : ∀ (x y : List Ds) (k : Nat), mapK E μ k (x ++ y) = mapK E μ k x ++ mapK E μ (k + x.length) y
  | [], y, k => rfl
  | d :: r, y, k => by
    simp only [List.cons_append, mapK, List.length_cons]
    rw [mapK_app r y (k + 1), show k + 1 + r.length = k + (r.length + 1) by omega]
theorem zz4 : (0 ≤ (0 : Int32).toInt ∧ (0 : Int32).toInt ≤ 9) ∧ (-9 ≤ (0 : Int32).toInt ∧ (0 : Int32).toInt ≤ 9) ∧ (-9 ≤ (0 : Int32).toInt ∧ (0 : Int32).toInt ≤ 9) ∧ 0 ≤ (0 : Int32).toInt ∧ (0 : Int32).toInt ≤ 9 := by decide
theorem bt_zz : ∀ i, i < 32 → bt 0 i = false := by decide +kernel
def sF0 : FL := (0, fun _ => 0, fun _ => 0, fun _ => 0, fun _ => 0, 0, 0, 12)
def sta0 : ST := (sF0, [1000, 1001, 2004], [], [], fun _ => none, [], [])
theorem sta0_ok : OK sta0 := by
  refine ⟨⟨by decide, fun i _ => zz4, fun i h => absurd h (Nat.not_lt_zero i), fun i _ h => ?_, fun i _ _ => ⟨rfl, rfl, rfl, rfl⟩⟩, ⟨by decide, ?_⟩, fun i => ?_, fun R h => ?_, fun i R _ h => ?_, fun x h => ?_, fun x h => ?_⟩
  · exact bt_zz i h
  · refine ⟨Or.inr (Or.inl ⟨by decide, by decide⟩), fun _ => ?_, fun h => absurd h (by decide), fun h => absurd h (by decide)⟩
    refine ⟨Or.inr (Or.inl ⟨by decide, by decide⟩), fun _ => ?_, fun h => absurd h (by decide), fun h => absurd h (by decide)⟩
    refine ⟨Or.inr (Or.inr (Or.inl ⟨by decide, by decide⟩)), fun h => absurd h (by decide), fun h => absurd h (by decide), fun _ _ => ⟨by decide, rfl⟩⟩
  · show ([] : List Nat).getD i 0 < 256
    simp
  · exact absurd h List.not_mem_nil
  · exact absurd h (by simp [s_K, sta0])
  · exact absurd h List.not_mem_nil
  · exact absurd h List.not_mem_nil
theorem sta0_sim : Sim sta0 [] mu0 := by
  refine ⟨sta0_ok, ⟨⟨by decide, rfl, fun _ _ => rfl, fun _ _ => rfl, fun _ _ => rfl, fun _ _ => rfl, rfl, rfl, rfl⟩, ⟨by decide, sta0_ok.2.1.2, by decide, fun i hi => ?_, by decide⟩, ⟨by decide, rfl, fun i h => absurd h (Nat.not_lt_zero i)⟩, ⟨by decide, rfl, 0, by decide, rfl, fun i h => absurd h (Nat.not_lt_zero i)⟩, fun i _ => ⟨rfl, fun R h => absurd h (by simp [s_K, sta0])⟩, ⟨by decide, rfl, fun i h => absurd h (Nat.not_lt_zero i)⟩, ⟨by decide, rfl, fun i h => absurd h (Nat.not_lt_zero i)⟩⟩,
    ⟨⟨by decide, rfl, fun _ _ => rfl, fun i hi => ?_, fun i hi => ?_, fun i hi => ?_, rfl, rfl, rfl⟩, Or.inr ⟨rfl, rfl⟩, ⟨by decide, rfl, fun i h => absurd h (Nat.not_lt_zero i)⟩, ⟨by decide, rfl, fun i h => absurd h (Nat.not_lt_zero i)⟩, ⟨0, by decide, rfl, fun i _ => ⟨fun R h => absurd h (by simp [s_K, sta0]), fun _ => Or.inl rfl, fun h => absurd rfl h⟩⟩, ⟨by decide, rfl, fun i h => absurd h (Nat.not_lt_zero i)⟩, ⟨by decide, rfl, fun i h => absurd h (Nat.not_lt_zero i)⟩⟩, ⟨by decide, rfl, fun i h => absurd h (Nat.not_lt_zero i)⟩, ⟨by decide, rfl, fun i h => absurd h (Nat.not_lt_zero i)⟩⟩
  · rcases (show i = 0 ∨ i = 1 ∨ i = 2 by have : i < 3 := hi; omega) with rfl | rfl | rfl <;> decide
  · show upd (fun _ => 0) 23 12 i = 0
    unfold upd; rw [if_neg (by omega)]
  · show upd (fun _ => 0) 23 12 (7 + i) = 0
    unfold upd; rw [if_neg (by omega)]
  · show upd (fun _ => 0) 23 12 (14 + i) = 0
    unfold upd; rw [if_neg (by omega)]
/-- the world behind the constructors is the machine's -/
theorem wldA {B : Bx} {h h' q : Nat} {a a' sa ba : Nat → Nat} : mapK (B.1, B.2.1, B.2.2, adr h a h' a' q, sa, ba) mu0 0 (dscL.take 49) = wX11 B h a := rfl
theorem wldB {B : Bx} {h h' q : Nat} {a a' sa ba : Nat → Nat} : mapK (B.1, B.2.1, B.2.2, adr h a h' a' q, sa, ba) mu0 49 ((dscL.drop 49).take 29) = wX12 B h' a' := rfl
theorem wldC {B : Bx} {h h' q : Nat} {a a' sa ba : Nat → Nat} : mapK (B.1, B.2.1, B.2.2, adr h a h' a' q, sa, ba) mu0 78 ((dscL.drop 49).drop 29) = [(q, .inl (B.2.2 2, 1, .inr (.inl (fun _ => 0))))] := rfl
theorem wld0 {B : Bx} {h h' q : Nat} {a a' sa ba : Nat → Nat} : wld (B.1, B.2.1, B.2.2, adr h a h' a' q, sa, ba) mu0 = (([] ++ wX11 B h a) ++ wX12 B h' a') ++ [(q, .inl (B.2.2 2, 1, .inr (.inl (fun _ => 0))))] := by
  have e1 : dscL = dscL.take 49 ++ ((dscL.drop 49).take 29 ++ (dscL.drop 49).drop 29) := by rw [List.take_append_drop, List.take_append_drop]
  rw [wld_mapK, e1, mapK_app, mapK_app, show (0 + (dscL.take 49).length) = 49 from rfl, show (49 + ((dscL.drop 49).take 29).length) = 78 from rfl]
  rw [wldA, wldB, wldC, List.nil_append, List.append_assoc]

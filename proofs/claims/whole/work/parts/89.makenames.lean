/-! constructors: names, code, links, worlds; by program (wip/whole/mkmake.py) -/
theorem arr_int : Cond.arrayClass .int ∈ Tg := in_Tg (in_t1 (List.mem_of_getElem? (i := 80) (by decide +kernel))) rfl
theorem arr_char : Cond.arrayClass .char ∈ Tg := in_Tg (in_t1 (List.mem_of_getElem? (i := 152) (by decide +kernel))) rfl
theorem arr_long : Cond.arrayClass .long ∈ Tg := in_Tg (in_t1 (List.mem_of_getElem? (i := 168) (by decide +kernel))) rfl
theorem arr_boolean : Cond.arrayClass .boolean ∈ Tg := in_Tg (in_t1 (List.mem_of_getElem? (i := 192) (by decide +kernel))) rfl
abbrev zX0 : List Value := [.int 0]
theorem dfX0 : ∀ j, j < 1 → defaultValue (tyX0 j) = vp_V zX0 j
  | 0, _ => rfl
  | j + 1, h => absurd h (by omega)
abbrev mX0_init : Mx := (yX0_init, cX0_init, 1, none)
def kX0_init : List (Nat × Instr × Nat) := [(0, .aload_n 0, 1), (1, .invokespecial 1, 3), (4, .aload_n 0, 1), (5, .iconst 0, 1), (6, .putfield 7, 3), (9, .return_, 1)]
set_option maxRecDepth 100000 in
theorem okX0_init : ∀ q ∈ kX0_init, decode cX0_init q.1 = .ok (q.2.1, q.2.2) := dkL (by decide +kernel)
theorem mdX0 : MadeOK mX0_init := ⟨⟨in_Tg (in_t2 (List.mem_of_getElem? (i := 31) (by decide +kernel))) rfl, in_Tg (in_t1 (List.mem_of_getElem? (i := 12) (by decide +kernel))) rfl, in_Tg (in_t2 (List.mem_of_getElem? (i := 32) (by decide +kernel))) rfl⟩, ⟨rfl, rfl⟩, by decide +kernel, by decide⟩
theorem insX0 : Cond.instantiable RX0 1 ∈ Tg := in_Tg (in_t2 (List.mem_of_getElem? (i := 29) (by decide +kernel))) rfl
theorem iniX0 : Cond.initialized RX0 ∈ Tg := in_Tg (in_t1 (List.mem_of_getElem? (i := 12) (by decide +kernel))) rfl
theorem liX0_1 : Cond.methodLink RX0 1 objectInit ∈ Tg := in_Tg (in_t2 (List.mem_of_getElem? (i := 33) (by decide +kernel))) rfl
theorem pcX0_7 : PutC RX0 7 0 0 .int := ⟨RX0, TX0, 1, tyX0, rfl, by decide, iTX0, in_Tg (in_t2 (List.mem_of_getElem? (i := 34) (by decide +kernel))) rfl, tyX0_ok, nmX0, Or.inl rfl, by decide +kernel⟩
abbrev zX1 : List Value := [.int 0, .null, .null, .null, .null, .int 0, .int 0, .int 0, .null, .null]
theorem dfX1 : ∀ j, j < 10 → defaultValue (tyX1 j) = vp_V zX1 j
  | 0, _ => rfl
  | 1, _ => rfl
  | 2, _ => rfl
  | 3, _ => rfl
  | 4, _ => rfl
  | 5, _ => rfl
  | 6, _ => rfl
  | 7, _ => rfl
  | 8, _ => rfl
  | 9, _ => rfl
  | j + 10, h => absurd h (by omega)
abbrev mX1_init : Mx := (yX1_init, cX1_init, 1, none)
def kX1_init : List (Nat × Instr × Nat) := [(0, .aload_n 0, 1), (1, .invokespecial 3, 3), (4, .aload_n 0, 1), (5, .iconst 0, 1), (6, .putfield 9, 3), (9, .aload_n 0, 1), (10, .bipush 7, 2), (12, .newarray .int, 2), (14, .putfield 15, 3), (17, .aload_n 0, 1), (18, .bipush 7, 2), (20, .newarray .int, 2), (22, .putfield 19, 3), (25, .aload_n 0, 1), (26, .bipush 7, 2), (28, .newarray .int, 2), (30, .putfield 22, 3), (33, .aload_n 0, 1), (34, .bipush 7, 2), (36, .newarray .int, 2), (38, .putfield 25, 3), (41, .aload_n 0, 1), (42, .iconst 0, 1), (43, .putfield 28, 3), (46, .aload_n 0, 1), (47, .iconst 0, 1), (48, .putfield 31, 3), (51, .aload_n 0, 1), (52, .bipush 12, 2), (54, .putfield 34, 3), (57, .aload_n 0, 1), (58, .bipush 7, 2), (60, .newarray .int, 2), (62, .putfield 37, 3), (65, .aload_n 0, 1), (66, .bipush 7, 2), (68, .newarray .int, 2), (70, .putfield 42, 3), (73, .return_, 1)]
set_option maxRecDepth 100000 in
theorem okX1_init : ∀ q ∈ kX1_init, decode cX1_init q.1 = .ok (q.2.1, q.2.2) := dkL (by decide +kernel)
theorem mdX1 : MadeOK mX1_init := ⟨⟨in_Tg (in_t1 (List.mem_of_getElem? (i := 36) (by decide +kernel))) rfl, in_Tg (in_t1 (List.mem_of_getElem? (i := 2) (by decide +kernel))) rfl, in_Tg (in_t1 (List.mem_of_getElem? (i := 37) (by decide +kernel))) rfl⟩, ⟨rfl, rfl⟩, by decide +kernel, by decide⟩
theorem insX1 : Cond.instantiable RX1 10 ∈ Tg := in_Tg (in_t1 (List.mem_of_getElem? (i := 34) (by decide +kernel))) rfl
theorem iniX1 : Cond.initialized RX1 ∈ Tg := in_Tg (in_t1 (List.mem_of_getElem? (i := 2) (by decide +kernel))) rfl
theorem liX1_3 : Cond.methodLink RX1 3 objectInit ∈ Tg := in_Tg (in_t1 (List.mem_of_getElem? (i := 38) (by decide +kernel))) rfl
theorem pcX1_9 : PutC RX1 9 1 0 .int := ⟨RX1, TX1, 10, tyX1, rfl, by decide, iTX1, in_Tg (in_t1 (List.mem_of_getElem? (i := 39) (by decide +kernel))) rfl, tyX1_ok, nmX1, Or.inl rfl, by decide +kernel⟩
theorem pcX1_15 : PutC RX1 15 1 1 (.array .int) := ⟨RX1, TX1, 10, tyX1, rfl, by decide, iTX1, in_Tg (in_t1 (List.mem_of_getElem? (i := 42) (by decide +kernel))) rfl, tyX1_ok, nmX1, Or.inr ⟨rfl, rfl⟩, by decide +kernel⟩
theorem pcX1_19 : PutC RX1 19 1 2 (.array .int) := ⟨RX1, TX1, 10, tyX1, rfl, by decide, iTX1, in_Tg (in_t1 (List.mem_of_getElem? (i := 44) (by decide +kernel))) rfl, tyX1_ok, nmX1, Or.inr ⟨rfl, rfl⟩, by decide +kernel⟩
theorem pcX1_22 : PutC RX1 22 1 3 (.array .int) := ⟨RX1, TX1, 10, tyX1, rfl, by decide, iTX1, in_Tg (in_t1 (List.mem_of_getElem? (i := 47) (by decide +kernel))) rfl, tyX1_ok, nmX1, Or.inr ⟨rfl, rfl⟩, by decide +kernel⟩
theorem pcX1_25 : PutC RX1 25 1 4 (.array .int) := ⟨RX1, TX1, 10, tyX1, rfl, by decide, iTX1, in_Tg (in_t1 (List.mem_of_getElem? (i := 50) (by decide +kernel))) rfl, tyX1_ok, nmX1, Or.inr ⟨rfl, rfl⟩, by decide +kernel⟩
theorem pcX1_28 : PutC RX1 28 1 5 .int := ⟨RX1, TX1, 10, tyX1, rfl, by decide, iTX1, in_Tg (in_t1 (List.mem_of_getElem? (i := 52) (by decide +kernel))) rfl, tyX1_ok, nmX1, Or.inl rfl, by decide +kernel⟩
theorem pcX1_31 : PutC RX1 31 1 6 .int := ⟨RX1, TX1, 10, tyX1, rfl, by decide, iTX1, in_Tg (in_t1 (List.mem_of_getElem? (i := 53) (by decide +kernel))) rfl, tyX1_ok, nmX1, Or.inl rfl, by decide +kernel⟩
theorem pcX1_34 : PutC RX1 34 1 7 .int := ⟨RX1, TX1, 10, tyX1, rfl, by decide, iTX1, in_Tg (in_t1 (List.mem_of_getElem? (i := 55) (by decide +kernel))) rfl, tyX1_ok, nmX1, Or.inl rfl, by decide +kernel⟩
theorem pcX1_37 : PutC RX1 37 1 8 (.array .int) := ⟨RX1, TX1, 10, tyX1, rfl, by decide, iTX1, in_Tg (in_t1 (List.mem_of_getElem? (i := 57) (by decide +kernel))) rfl, tyX1_ok, nmX1, Or.inr ⟨rfl, rfl⟩, by decide +kernel⟩
theorem pcX1_42 : PutC RX1 42 1 9 (.array .int) := ⟨RX1, TX1, 10, tyX1, rfl, by decide, iTX1, in_Tg (in_t1 (List.mem_of_getElem? (i := 58) (by decide +kernel))) rfl, tyX1_ok, nmX1, Or.inr ⟨rfl, rfl⟩, by decide +kernel⟩
abbrev zX2 : List Value := [.null, .null, .int 0]
theorem dfX2 : ∀ j, j < 3 → defaultValue (tyX2 j) = vp_V zX2 j
  | 0, _ => rfl
  | 1, _ => rfl
  | 2, _ => rfl
  | j + 3, h => absurd h (by omega)
abbrev mX2_init : Mx := (yX2_init, cX2_init, 1, none)
def kX2_init : List (Nat × Instr × Nat) := [(0, .aload_n 0, 1), (1, .invokespecial 3, 3), (4, .aload_n 0, 1), (5, .bipush 12, 2), (7, .newarray .int, 2), (9, .putfield 11, 3), (12, .aload_n 0, 1), (13, .bipush 12, 2), (15, .newarray .int, 2), (17, .putfield 15, 3), (20, .aload_n 0, 1), (21, .iconst 0, 1), (22, .putfield 18, 3), (25, .return_, 1)]
set_option maxRecDepth 100000 in
theorem okX2_init : ∀ q ∈ kX2_init, decode cX2_init q.1 = .ok (q.2.1, q.2.2) := dkL (by decide +kernel)
theorem mdX2 : MadeOK mX2_init := ⟨⟨in_Tg (in_t2 (List.mem_of_getElem? (i := 14) (by decide +kernel))) rfl, in_Tg (in_t1 (List.mem_of_getElem? (i := 11) (by decide +kernel))) rfl, in_Tg (in_t2 (List.mem_of_getElem? (i := 15) (by decide +kernel))) rfl⟩, ⟨rfl, rfl⟩, by decide +kernel, by decide⟩
theorem insX2 : Cond.instantiable RX2 3 ∈ Tg := in_Tg (in_t2 (List.mem_of_getElem? (i := 12) (by decide +kernel))) rfl
theorem iniX2 : Cond.initialized RX2 ∈ Tg := in_Tg (in_t1 (List.mem_of_getElem? (i := 11) (by decide +kernel))) rfl
theorem liX2_3 : Cond.methodLink RX2 3 objectInit ∈ Tg := in_Tg (in_t2 (List.mem_of_getElem? (i := 16) (by decide +kernel))) rfl
theorem pcX2_11 : PutC RX2 11 2 0 (.array .int) := ⟨RX2, TX2, 3, tyX2, rfl, by decide, iTX2, in_Tg (in_t2 (List.mem_of_getElem? (i := 17) (by decide +kernel))) rfl, tyX2_ok, nmX2, Or.inr ⟨rfl, rfl⟩, by decide +kernel⟩
theorem pcX2_15 : PutC RX2 15 2 1 (.array .int) := ⟨RX2, TX2, 3, tyX2, rfl, by decide, iTX2, in_Tg (in_t2 (List.mem_of_getElem? (i := 18) (by decide +kernel))) rfl, tyX2_ok, nmX2, Or.inr ⟨rfl, rfl⟩, by decide +kernel⟩
theorem pcX2_18 : PutC RX2 18 2 2 .int := ⟨RX2, TX2, 3, tyX2, rfl, by decide, iTX2, in_Tg (in_t2 (List.mem_of_getElem? (i := 19) (by decide +kernel))) rfl, tyX2_ok, nmX2, Or.inl rfl, by decide +kernel⟩
abbrev zX3 : List Value := [.null, .int 0, .int 0, .null, .null]
theorem dfX3 : ∀ j, j < 5 → defaultValue (tyX3 j) = vp_V zX3 j
  | 0, _ => rfl
  | 1, _ => rfl
  | 2, _ => rfl
  | 3, _ => rfl
  | 4, _ => rfl
  | j + 5, h => absurd h (by omega)
abbrev mX3_init : Mx := (yX3_init, cX3_init, 1, none)
def kX3_init : List (Nat × Instr × Nat) := [(0, .aload_n 0, 1), (1, .invokespecial 3, 3), (4, .aload_n 0, 1), (5, .sipush 384, 3), (8, .newarray .int, 2), (10, .putfield 11, 3), (13, .aload_n 0, 1), (14, .iconst 0, 1), (15, .putfield 15, 3), (18, .aload_n 0, 1), (19, .iconst 0, 1), (20, .putfield 19, 3), (23, .aload_n 0, 1), (24, .bipush 72, 2), (26, .newarray .int, 2), (28, .putfield 22, 3), (31, .aload_n 0, 1), (32, .iconst 3, 1), (33, .newarray .boolean, 2), (35, .putfield 25, 3), (38, .return_, 1)]
set_option maxRecDepth 100000 in
theorem okX3_init : ∀ q ∈ kX3_init, decode cX3_init q.1 = .ok (q.2.1, q.2.2) := dkL (by decide +kernel)
theorem mdX3 : MadeOK mX3_init := ⟨⟨in_Tg (in_t1 (List.mem_of_getElem? (i := 172) (by decide +kernel))) rfl, in_Tg (in_t1 (List.mem_of_getElem? (i := 7) (by decide +kernel))) rfl, in_Tg (in_t1 (List.mem_of_getElem? (i := 173) (by decide +kernel))) rfl⟩, ⟨rfl, rfl⟩, by decide +kernel, by decide⟩
theorem insX3 : Cond.instantiable RX3 5 ∈ Tg := in_Tg (in_t1 (List.mem_of_getElem? (i := 170) (by decide +kernel))) rfl
theorem iniX3 : Cond.initialized RX3 ∈ Tg := in_Tg (in_t1 (List.mem_of_getElem? (i := 7) (by decide +kernel))) rfl
theorem liX3_3 : Cond.methodLink RX3 3 objectInit ∈ Tg := in_Tg (in_t1 (List.mem_of_getElem? (i := 174) (by decide +kernel))) rfl
theorem pcX3_11 : PutC RX3 11 3 0 (.array .int) := ⟨RX3, TX3, 5, tyX3, rfl, by decide, iTX3, in_Tg (in_t1 (List.mem_of_getElem? (i := 175) (by decide +kernel))) rfl, tyX3_ok, nmX3, Or.inr ⟨rfl, rfl⟩, by decide +kernel⟩
theorem pcX3_15 : PutC RX3 15 3 1 .int := ⟨RX3, TX3, 5, tyX3, rfl, by decide, iTX3, in_Tg (in_t1 (List.mem_of_getElem? (i := 176) (by decide +kernel))) rfl, tyX3_ok, nmX3, Or.inl rfl, by decide +kernel⟩
theorem pcX3_19 : PutC RX3 19 3 2 .int := ⟨RX3, TX3, 5, tyX3, rfl, by decide, iTX3, in_Tg (in_t1 (List.mem_of_getElem? (i := 177) (by decide +kernel))) rfl, tyX3_ok, nmX3, Or.inl rfl, by decide +kernel⟩
theorem pcX3_22 : PutC RX3 22 3 3 (.array .int) := ⟨RX3, TX3, 5, tyX3, rfl, by decide, iTX3, in_Tg (in_t1 (List.mem_of_getElem? (i := 179) (by decide +kernel))) rfl, tyX3_ok, nmX3, Or.inr ⟨rfl, rfl⟩, by decide +kernel⟩
theorem pcX3_25 : PutC RX3 25 3 4 (.array .boolean) := ⟨RX3, TX3, 5, tyX3, rfl, by decide, iTX3, in_Tg (in_t1 (List.mem_of_getElem? (i := 180) (by decide +kernel))) rfl, tyX3_ok, nmX3, Or.inr ⟨rfl, rfl⟩, by decide +kernel⟩
abbrev zX4 : List Value := [.null, .int 0]
theorem dfX4 : ∀ j, j < 2 → defaultValue (tyX4 j) = vp_V zX4 j
  | 0, _ => rfl
  | 1, _ => rfl
  | j + 2, h => absurd h (by omega)
abbrev mX4_init : Mx := (yX4_init, cX4_init, 1, none)
def kX4_init : List (Nat × Instr × Nat) := [(0, .aload_n 0, 1), (1, .invokespecial 1, 3), (4, .aload_n 0, 1), (5, .bipush 41, 2), (7, .newarray .int, 2), (9, .putfield 9, 3), (12, .aload_n 0, 1), (13, .iconst 0, 1), (14, .putfield 15, 3), (17, .return_, 1)]
set_option maxRecDepth 100000 in
theorem okX4_init : ∀ q ∈ kX4_init, decode cX4_init q.1 = .ok (q.2.1, q.2.2) := dkL (by decide +kernel)
theorem mdX4 : MadeOK mX4_init := ⟨⟨in_Tg (in_t1 (List.mem_of_getElem? (i := 90) (by decide +kernel))) rfl, in_Tg (in_t1 (List.mem_of_getElem? (i := 4) (by decide +kernel))) rfl, in_Tg (in_t1 (List.mem_of_getElem? (i := 91) (by decide +kernel))) rfl⟩, ⟨rfl, rfl⟩, by decide +kernel, by decide⟩
theorem insX4 : Cond.instantiable RX4 2 ∈ Tg := in_Tg (in_t1 (List.mem_of_getElem? (i := 88) (by decide +kernel))) rfl
theorem iniX4 : Cond.initialized RX4 ∈ Tg := in_Tg (in_t1 (List.mem_of_getElem? (i := 4) (by decide +kernel))) rfl
theorem liX4_1 : Cond.methodLink RX4 1 objectInit ∈ Tg := in_Tg (in_t1 (List.mem_of_getElem? (i := 92) (by decide +kernel))) rfl
theorem pcX4_9 : PutC RX4 9 4 0 (.array .int) := ⟨RX4, TX4, 2, tyX4, rfl, by decide, iTX4, in_Tg (in_t1 (List.mem_of_getElem? (i := 93) (by decide +kernel))) rfl, tyX4_ok, nmX4, Or.inr ⟨rfl, rfl⟩, by decide +kernel⟩
theorem pcX4_15 : PutC RX4 15 4 1 .int := ⟨RX4, TX4, 2, tyX4, rfl, by decide, iTX4, in_Tg (in_t1 (List.mem_of_getElem? (i := 94) (by decide +kernel))) rfl, tyX4_ok, nmX4, Or.inl rfl, by decide +kernel⟩
abbrev zX5 : List Value := [.null, .int 0, .int 0, .null, .null, .int 0, .int 0, .int 0, .int 0]
theorem dfX5 : ∀ j, j < 9 → defaultValue (tyX5 j) = vp_V zX5 j
  | 0, _ => rfl
  | 1, _ => rfl
  | 2, _ => rfl
  | 3, _ => rfl
  | 4, _ => rfl
  | 5, _ => rfl
  | 6, _ => rfl
  | 7, _ => rfl
  | 8, _ => rfl
  | j + 9, h => absurd h (by omega)
abbrev mX5_init : Mx := (yX5_init, cX5_init, 1, none)
def kX5_init : List (Nat × Instr × Nat) := [(0, .aload_n 0, 1), (1, .invokespecial 3, 3), (4, .aload_n 0, 1), (5, .bipush 41, 2), (7, .newarray .int, 2), (9, .putfield 11, 3), (12, .aload_n 0, 1), (13, .iconst 0, 1), (14, .putfield 15, 3), (17, .aload_n 0, 1), (18, .iconst 0, 1), (19, .putfield 19, 3), (22, .aload_n 0, 1), (23, .bipush 41, 2), (25, .newarray .int, 2), (27, .putfield 23, 3), (30, .aload_n 0, 1), (31, .new 26, 3), (34, .dup, 1), (35, .invokespecial 28, 3), (38, .putfield 29, 3), (41, .aload_n 0, 1), (42, .iconst 1, 1), (43, .putfield 33, 3), (46, .aload_n 0, 1), (47, .iconst 0, 1), (48, .putfield 36, 3), (51, .aload_n 0, 1), (52, .iconst 0, 1), (53, .putfield 39, 3), (56, .aload_n 0, 1), (57, .iconst 0, 1), (58, .putfield 42, 3), (61, .aload_n 0, 1), (62, .invokevirtual 45, 3), (65, .return_, 1)]
set_option maxRecDepth 100000 in
theorem okX5_init : ∀ q ∈ kX5_init, decode cX5_init q.1 = .ok (q.2.1, q.2.2) := dkL (by decide +kernel)
theorem mdX5 : MadeOK mX5_init := ⟨⟨in_Tg (in_t1 (List.mem_of_getElem? (i := 84) (by decide +kernel))) rfl, in_Tg (in_t1 (List.mem_of_getElem? (i := 3) (by decide +kernel))) rfl, in_Tg (in_t1 (List.mem_of_getElem? (i := 85) (by decide +kernel))) rfl⟩, ⟨rfl, rfl⟩, by decide +kernel, by decide⟩
theorem insX5 : Cond.instantiable RX5 9 ∈ Tg := in_Tg (in_t1 (List.mem_of_getElem? (i := 82) (by decide +kernel))) rfl
theorem iniX5 : Cond.initialized RX5 ∈ Tg := in_Tg (in_t1 (List.mem_of_getElem? (i := 3) (by decide +kernel))) rfl
theorem liX5_3 : Cond.methodLink RX5 3 objectInit ∈ Tg := in_Tg (in_t1 (List.mem_of_getElem? (i := 86) (by decide +kernel))) rfl
theorem pcX5_11 : PutC RX5 11 5 0 (.array .int) := ⟨RX5, TX5, 9, tyX5, rfl, by decide, iTX5, in_Tg (in_t1 (List.mem_of_getElem? (i := 108) (by decide +kernel))) rfl, tyX5_ok, nmX5, Or.inr ⟨rfl, rfl⟩, by decide +kernel⟩
theorem pcX5_15 : PutC RX5 15 5 1 .int := ⟨RX5, TX5, 9, tyX5, rfl, by decide, iTX5, in_Tg (in_t1 (List.mem_of_getElem? (i := 109) (by decide +kernel))) rfl, tyX5_ok, nmX5, Or.inl rfl, by decide +kernel⟩
theorem pcX5_19 : PutC RX5 19 5 2 .boolean := ⟨RX5, TX5, 9, tyX5, rfl, by decide, iTX5, in_Tg (in_t1 (List.mem_of_getElem? (i := 110) (by decide +kernel))) rfl, tyX5_ok, nmX5, Or.inl rfl, by decide +kernel⟩
theorem pcX5_23 : PutC RX5 23 5 3 (.array .int) := ⟨RX5, TX5, 9, tyX5, rfl, by decide, iTX5, in_Tg (in_t1 (List.mem_of_getElem? (i := 112) (by decide +kernel))) rfl, tyX5_ok, nmX5, Or.inr ⟨rfl, rfl⟩, by decide +kernel⟩
theorem clX5_26 : Cond.classLink RX5 26 RX4 ∈ Tg := in_Tg (in_t1 (List.mem_of_getElem? (i := 87) (by decide +kernel))) rfl
theorem liX5_28 : Cond.methodLinkNest RX5 28 yX4_init RX11 ∈ Ng := in_Ng (in_t1 (List.mem_of_getElem? (i := 89) (by decide +kernel))) rfl
theorem pcX5_29 : PutC RX5 29 5 4 (.object "VotingFloor$Pile") := ⟨RX5, TX5, 9, tyX5, rfl, by decide, iTX5, in_Tg (in_t1 (List.mem_of_getElem? (i := 113) (by decide +kernel))) rfl, tyX5_ok, nmX5, Or.inr ⟨rfl, rfl⟩, by decide +kernel⟩
theorem pcX5_33 : PutC RX5 33 5 5 .boolean := ⟨RX5, TX5, 9, tyX5, rfl, by decide, iTX5, in_Tg (in_t1 (List.mem_of_getElem? (i := 114) (by decide +kernel))) rfl, tyX5_ok, nmX5, Or.inl rfl, by decide +kernel⟩
theorem pcX5_36 : PutC RX5 36 5 6 .int := ⟨RX5, TX5, 9, tyX5, rfl, by decide, iTX5, in_Tg (in_t1 (List.mem_of_getElem? (i := 115) (by decide +kernel))) rfl, tyX5_ok, nmX5, Or.inl rfl, by decide +kernel⟩
theorem pcX5_39 : PutC RX5 39 5 7 .int := ⟨RX5, TX5, 9, tyX5, rfl, by decide, iTX5, in_Tg (in_t1 (List.mem_of_getElem? (i := 116) (by decide +kernel))) rfl, tyX5_ok, nmX5, Or.inl rfl, by decide +kernel⟩
theorem pcX5_42 : PutC RX5 42 5 8 .int := ⟨RX5, TX5, 9, tyX5, rfl, by decide, iTX5, in_Tg (in_t1 (List.mem_of_getElem? (i := 117) (by decide +kernel))) rfl, tyX5_ok, nmX5, Or.inl rfl, by decide +kernel⟩
abbrev zX6 : List Value := [.null, .null, .null, .int 0]
theorem dfX6 : ∀ j, j < 4 → defaultValue (tyX6 j) = vp_V zX6 j
  | 0, _ => rfl
  | 1, _ => rfl
  | 2, _ => rfl
  | 3, _ => rfl
  | j + 4, h => absurd h (by omega)
abbrev mX6_init : Mx := (yX6_init, cX6_init, 1, none)
def kX6_init : List (Nat × Instr × Nat) := [(0, .aload_n 0, 1), (1, .invokespecial 1, 3), (4, .aload_n 0, 1), (5, .bipush 10, 2), (7, .newarray .int, 2), (9, .putfield 9, 3), (12, .aload_n 0, 1), (13, .bipush 10, 2), (15, .newarray .int, 2), (17, .putfield 13, 3), (20, .aload_n 0, 1), (21, .bipush 10, 2), (23, .newarray .int, 2), (25, .putfield 16, 3), (28, .aload_n 0, 1), (29, .iconst 0, 1), (30, .putfield 19, 3), (33, .return_, 1)]
set_option maxRecDepth 100000 in
theorem okX6_init : ∀ q ∈ kX6_init, decode cX6_init q.1 = .ok (q.2.1, q.2.2) := dkL (by decide +kernel)
theorem mdX6 : MadeOK mX6_init := ⟨⟨in_Tg (in_t1 (List.mem_of_getElem? (i := 234) (by decide +kernel))) rfl, in_Tg (in_t1 (List.mem_of_getElem? (i := 10) (by decide +kernel))) rfl, in_Tg (in_t1 (List.mem_of_getElem? (i := 235) (by decide +kernel))) rfl⟩, ⟨rfl, rfl⟩, by decide +kernel, by decide⟩
theorem insX6 : Cond.instantiable RX6 4 ∈ Tg := in_Tg (in_t1 (List.mem_of_getElem? (i := 232) (by decide +kernel))) rfl
theorem iniX6 : Cond.initialized RX6 ∈ Tg := in_Tg (in_t1 (List.mem_of_getElem? (i := 10) (by decide +kernel))) rfl
theorem liX6_1 : Cond.methodLink RX6 1 objectInit ∈ Tg := in_Tg (in_t1 (List.mem_of_getElem? (i := 236) (by decide +kernel))) rfl
theorem pcX6_9 : PutC RX6 9 6 0 (.array .int) := ⟨RX6, TX6, 4, tyX6, rfl, by decide, iTX6, in_Tg (in_t1 (List.mem_of_getElem? (i := 237) (by decide +kernel))) rfl, tyX6_ok, nmX6, Or.inr ⟨rfl, rfl⟩, by decide +kernel⟩
theorem pcX6_13 : PutC RX6 13 6 1 (.array .int) := ⟨RX6, TX6, 4, tyX6, rfl, by decide, iTX6, in_Tg (in_t1 (List.mem_of_getElem? (i := 238) (by decide +kernel))) rfl, tyX6_ok, nmX6, Or.inr ⟨rfl, rfl⟩, by decide +kernel⟩
theorem pcX6_16 : PutC RX6 16 6 2 (.array .int) := ⟨RX6, TX6, 4, tyX6, rfl, by decide, iTX6, in_Tg (in_t1 (List.mem_of_getElem? (i := 239) (by decide +kernel))) rfl, tyX6_ok, nmX6, Or.inr ⟨rfl, rfl⟩, by decide +kernel⟩
theorem pcX6_19 : PutC RX6 19 6 3 .int := ⟨RX6, TX6, 4, tyX6, rfl, by decide, iTX6, in_Tg (in_t2 (List.mem_of_getElem? (i := 0) (by decide +kernel))) rfl, tyX6_ok, nmX6, Or.inl rfl, by decide +kernel⟩
abbrev zX7 : List Value := [.null, .null]
theorem dfX7 : ∀ j, j < 2 → defaultValue (tyX7 j) = vp_V zX7 j
  | 0, _ => rfl
  | 1, _ => rfl
  | j + 2, h => absurd h (by omega)
abbrev mX7_init : Mx := (yX7_init, cX7_init, 1, none)
def kX7_init : List (Nat × Instr × Nat) := [(0, .aload_n 0, 1), (1, .invokespecial 3, 3), (4, .aload_n 0, 1), (5, .bipush 7, 2), (7, .newarray .int, 2), (9, .putfield 9, 3), (12, .aload_n 0, 1), (13, .bipush 7, 2), (15, .newarray .int, 2), (17, .putfield 15, 3), (20, .return_, 1)]
set_option maxRecDepth 100000 in
theorem okX7_init : ∀ q ∈ kX7_init, decode cX7_init q.1 = .ok (q.2.1, q.2.2) := dkL (by decide +kernel)
theorem mdX7 : MadeOK mX7_init := ⟨⟨in_Tg (in_t1 (List.mem_of_getElem? (i := 221) (by decide +kernel))) rfl, in_Tg (in_t1 (List.mem_of_getElem? (i := 9) (by decide +kernel))) rfl, in_Tg (in_t1 (List.mem_of_getElem? (i := 222) (by decide +kernel))) rfl⟩, ⟨rfl, rfl⟩, by decide +kernel, by decide⟩
theorem insX7 : Cond.instantiable RX7 2 ∈ Tg := in_Tg (in_t1 (List.mem_of_getElem? (i := 219) (by decide +kernel))) rfl
theorem iniX7 : Cond.initialized RX7 ∈ Tg := in_Tg (in_t1 (List.mem_of_getElem? (i := 9) (by decide +kernel))) rfl
theorem liX7_3 : Cond.methodLink RX7 3 objectInit ∈ Tg := in_Tg (in_t1 (List.mem_of_getElem? (i := 223) (by decide +kernel))) rfl
theorem pcX7_9 : PutC RX7 9 7 0 (.array .int) := ⟨RX7, TX7, 2, tyX7, rfl, by decide, iTX7, in_Tg (in_t1 (List.mem_of_getElem? (i := 224) (by decide +kernel))) rfl, tyX7_ok, nmX7, Or.inr ⟨rfl, rfl⟩, by decide +kernel⟩
theorem pcX7_15 : PutC RX7 15 7 1 (.array .int) := ⟨RX7, TX7, 2, tyX7, rfl, by decide, iTX7, in_Tg (in_t1 (List.mem_of_getElem? (i := 225) (by decide +kernel))) rfl, tyX7_ok, nmX7, Or.inr ⟨rfl, rfl⟩, by decide +kernel⟩
abbrev zX8 : List Value := [.null, .int 0, .int 0, .int 0, .int 0]
theorem dfX8 : ∀ j, j < 5 → defaultValue (tyX8 j) = vp_V zX8 j
  | 0, _ => rfl
  | 1, _ => rfl
  | 2, _ => rfl
  | 3, _ => rfl
  | 4, _ => rfl
  | j + 5, h => absurd h (by omega)
abbrev mX8_init : Mx := (yX8_init, cX8_init, 1, none)
def kX8_init : List (Nat × Instr × Nat) := [(0, .aload_n 0, 1), (1, .invokespecial 3, 3), (4, .aload_n 0, 1), (5, .bipush 7, 2), (7, .newarray .int, 2), (9, .putfield 9, 3), (12, .aload_n 0, 1), (13, .iconst 0, 1), (14, .putfield 15, 3), (17, .aload_n 0, 1), (18, .iconst 0, 1), (19, .putfield 19, 3), (22, .aload_n 0, 1), (23, .iconst 0, 1), (24, .putfield 22, 3), (27, .aload_n 0, 1), (28, .iconst 0, 1), (29, .putfield 25, 3), (32, .return_, 1)]
set_option maxRecDepth 100000 in
theorem okX8_init : ∀ q ∈ kX8_init, decode cX8_init q.1 = .ok (q.2.1, q.2.2) := dkL (by decide +kernel)
theorem mdX8 : MadeOK mX8_init := ⟨⟨in_Tg (in_t1 (List.mem_of_getElem? (i := 196) (by decide +kernel))) rfl, in_Tg (in_t1 (List.mem_of_getElem? (i := 8) (by decide +kernel))) rfl, in_Tg (in_t1 (List.mem_of_getElem? (i := 197) (by decide +kernel))) rfl⟩, ⟨rfl, rfl⟩, by decide +kernel, by decide⟩
theorem insX8 : Cond.instantiable RX8 5 ∈ Tg := in_Tg (in_t1 (List.mem_of_getElem? (i := 194) (by decide +kernel))) rfl
theorem iniX8 : Cond.initialized RX8 ∈ Tg := in_Tg (in_t1 (List.mem_of_getElem? (i := 8) (by decide +kernel))) rfl
theorem liX8_3 : Cond.methodLink RX8 3 objectInit ∈ Tg := in_Tg (in_t1 (List.mem_of_getElem? (i := 198) (by decide +kernel))) rfl
theorem pcX8_9 : PutC RX8 9 8 0 (.array .int) := ⟨RX8, TX8, 5, tyX8, rfl, by decide, iTX8, in_Tg (in_t1 (List.mem_of_getElem? (i := 199) (by decide +kernel))) rfl, tyX8_ok, nmX8, Or.inr ⟨rfl, rfl⟩, by decide +kernel⟩
theorem pcX8_15 : PutC RX8 15 8 1 .int := ⟨RX8, TX8, 5, tyX8, rfl, by decide, iTX8, in_Tg (in_t1 (List.mem_of_getElem? (i := 201) (by decide +kernel))) rfl, tyX8_ok, nmX8, Or.inl rfl, by decide +kernel⟩
theorem pcX8_19 : PutC RX8 19 8 2 .int := ⟨RX8, TX8, 5, tyX8, rfl, by decide, iTX8, in_Tg (in_t1 (List.mem_of_getElem? (i := 202) (by decide +kernel))) rfl, tyX8_ok, nmX8, Or.inl rfl, by decide +kernel⟩
theorem pcX8_22 : PutC RX8 22 8 3 .int := ⟨RX8, TX8, 5, tyX8, rfl, by decide, iTX8, in_Tg (in_t1 (List.mem_of_getElem? (i := 203) (by decide +kernel))) rfl, tyX8_ok, nmX8, Or.inl rfl, by decide +kernel⟩
theorem pcX8_25 : PutC RX8 25 8 4 .int := ⟨RX8, TX8, 5, tyX8, rfl, by decide, iTX8, in_Tg (in_t1 (List.mem_of_getElem? (i := 205) (by decide +kernel))) rfl, tyX8_ok, nmX8, Or.inl rfl, by decide +kernel⟩
abbrev zX9 : List Value := [.null, .int 0]
theorem dfX9 : ∀ j, j < 2 → defaultValue (tyX9 j) = vp_V zX9 j
  | 0, _ => rfl
  | 1, _ => rfl
  | j + 2, h => absurd h (by omega)
abbrev mX9_init : Mx := (yX9_init, cX9_init, 1, none)
def kX9_init : List (Nat × Instr × Nat) := [(0, .aload_n 0, 1), (1, .invokespecial 3, 3), (4, .aload_n 0, 1), (5, .bipush 80, 2), (7, .newarray .char, 2), (9, .putfield 11, 3), (12, .aload_n 0, 1), (13, .iconst 0, 1), (14, .putfield 15, 3), (17, .return_, 1)]
set_option maxRecDepth 100000 in
theorem okX9_init : ∀ q ∈ kX9_init, decode cX9_init q.1 = .ok (q.2.1, q.2.2) := dkL (by decide +kernel)
theorem mdX9 : MadeOK mX9_init := ⟨⟨in_Tg (in_t1 (List.mem_of_getElem? (i := 140) (by decide +kernel))) rfl, in_Tg (in_t1 (List.mem_of_getElem? (i := 5) (by decide +kernel))) rfl, in_Tg (in_t1 (List.mem_of_getElem? (i := 141) (by decide +kernel))) rfl⟩, ⟨rfl, rfl⟩, by decide +kernel, by decide⟩
theorem insX9 : Cond.instantiable RX9 2 ∈ Tg := in_Tg (in_t1 (List.mem_of_getElem? (i := 138) (by decide +kernel))) rfl
theorem iniX9 : Cond.initialized RX9 ∈ Tg := in_Tg (in_t1 (List.mem_of_getElem? (i := 5) (by decide +kernel))) rfl
theorem liX9_3 : Cond.methodLink RX9 3 objectInit ∈ Tg := in_Tg (in_t1 (List.mem_of_getElem? (i := 142) (by decide +kernel))) rfl
theorem pcX9_11 : PutC RX9 11 9 0 (.array .char) := ⟨RX9, TX9, 2, tyX9, rfl, by decide, iTX9, in_Tg (in_t1 (List.mem_of_getElem? (i := 143) (by decide +kernel))) rfl, tyX9_ok, nmX9, Or.inr ⟨rfl, rfl⟩, by decide +kernel⟩
theorem pcX9_15 : PutC RX9 15 9 1 .int := ⟨RX9, TX9, 2, tyX9, rfl, by decide, iTX9, in_Tg (in_t1 (List.mem_of_getElem? (i := 144) (by decide +kernel))) rfl, tyX9_ok, nmX9, Or.inl rfl, by decide +kernel⟩
abbrev zX10 : List Value := [.null, .int 0]
theorem dfX10 : ∀ j, j < 2 → defaultValue (tyX10 j) = vp_V zX10 j
  | 0, _ => rfl
  | 1, _ => rfl
  | j + 2, h => absurd h (by omega)
abbrev mX10_init : Mx := (yX10_init, cX10_init, 1, none)
def kX10_init : List (Nat × Instr × Nat) := [(0, .aload_n 0, 1), (1, .invokespecial 1, 3), (4, .aload_n 0, 1), (5, .bipush 16, 2), (7, .newarray .long, 2), (9, .putfield 9, 3), (12, .aload_n 0, 1), (13, .iconst 0, 1), (14, .putfield 13, 3), (17, .return_, 1)]
set_option maxRecDepth 100000 in
theorem okX10_init : ∀ q ∈ kX10_init, decode cX10_init q.1 = .ok (q.2.1, q.2.2) := dkL (by decide +kernel)
theorem mdX10 : MadeOK mX10_init := ⟨⟨in_Tg (in_t1 (List.mem_of_getElem? (i := 156) (by decide +kernel))) rfl, in_Tg (in_t1 (List.mem_of_getElem? (i := 6) (by decide +kernel))) rfl, in_Tg (in_t1 (List.mem_of_getElem? (i := 157) (by decide +kernel))) rfl⟩, ⟨rfl, rfl⟩, by decide +kernel, by decide⟩
theorem insX10 : Cond.instantiable RX10 2 ∈ Tg := in_Tg (in_t1 (List.mem_of_getElem? (i := 154) (by decide +kernel))) rfl
theorem iniX10 : Cond.initialized RX10 ∈ Tg := in_Tg (in_t1 (List.mem_of_getElem? (i := 6) (by decide +kernel))) rfl
theorem liX10_1 : Cond.methodLink RX10 1 objectInit ∈ Tg := in_Tg (in_t1 (List.mem_of_getElem? (i := 158) (by decide +kernel))) rfl
theorem pcX10_9 : PutC RX10 9 10 0 (.array .long) := ⟨RX10, TX10, 2, tyX10, rfl, by decide, iTX10, in_Tg (in_t1 (List.mem_of_getElem? (i := 159) (by decide +kernel))) rfl, tyX10_ok, nmX10, Or.inr ⟨rfl, rfl⟩, by decide +kernel⟩
theorem pcX10_13 : PutC RX10 13 10 1 .int := ⟨RX10, TX10, 2, tyX10, rfl, by decide, iTX10, in_Tg (in_t1 (List.mem_of_getElem? (i := 161) (by decide +kernel))) rfl, tyX10_ok, nmX10, Or.inl rfl, by decide +kernel⟩
abbrev zX11 : List Value := [.null, .null, .null, .null, .null, .null, .null, .null, .null, .null, .null, .null, .null, .null, .null]
theorem dfX11 : ∀ j, j < 15 → defaultValue (tyX11 j) = vp_V zX11 j
  | 0, _ => rfl
  | 1, _ => rfl
  | 2, _ => rfl
  | 3, _ => rfl
  | 4, _ => rfl
  | 5, _ => rfl
  | 6, _ => rfl
  | 7, _ => rfl
  | 8, _ => rfl
  | 9, _ => rfl
  | 10, _ => rfl
  | 11, _ => rfl
  | 12, _ => rfl
  | 13, _ => rfl
  | 14, _ => rfl
  | j + 15, h => absurd h (by omega)
abbrev mX11_init : Mx := (yX11_init, cX11_init, 1, none)
def kX11_init : List (Nat × Instr × Nat) := [(0, .aload_n 0, 1), (1, .invokespecial 3, 3), (4, .aload_n 0, 1), (5, .new 9, 3), (8, .dup, 1), (9, .invokespecial 11, 3), (12, .putfield 12, 3), (15, .aload_n 0, 1), (16, .new 9, 3), (19, .dup, 1), (20, .invokespecial 11, 3), (23, .putfield 16, 3), (26, .aload_n 0, 1), (27, .new 19, 3), (30, .dup, 1), (31, .invokespecial 21, 3), (34, .putfield 22, 3), (37, .aload_n 0, 1), (38, .new 19, 3), (41, .dup, 1), (42, .invokespecial 21, 3), (45, .putfield 26, 3), (48, .aload_n 0, 1), (49, .new 29, 3), (52, .dup, 1), (53, .invokespecial 31, 3), (56, .putfield 32, 3), (59, .aload_n 0, 1), (60, .new 36, 3), (63, .dup, 1), (64, .invokespecial 38, 3), (67, .putfield 39, 3), (70, .aload_n 0, 1), (71, .new 43, 3), (74, .dup, 1), (75, .invokespecial 45, 3), (78, .putfield 46, 3), (81, .aload_n 0, 1), (82, .new 50, 3), (85, .dup, 1), (86, .invokespecial 52, 3), (89, .putfield 53, 3), (92, .aload_n 0, 1), (93, .new 57, 3), (96, .dup, 1), (97, .invokespecial 59, 3), (100, .putfield 60, 3), (103, .aload_n 0, 1), (104, .new 64, 3), (107, .dup, 1), (108, .invokespecial 66, 3), (111, .putfield 67, 3), (114, .aload_n 0, 1), (115, .new 71, 3), (118, .dup, 1), (119, .invokespecial 73, 3), (122, .putfield 74, 3), (125, .aload_n 0, 1), (126, .new 78, 3), (129, .dup, 1), (130, .invokespecial 80, 3), (133, .putfield 81, 3), (136, .aload_n 0, 1), (137, .bipush 21, 2), (139, .newarray .int, 2), (141, .putfield 85, 3), (144, .aload_n 0, 1), (145, .sipush 399, 3), (148, .newarray .int, 2), (150, .putfield 89, 3), (153, .aload_n 0, 1), (154, .bipush 61, 2), (156, .newarray .int, 2), (158, .putfield 92, 3), (161, .return_, 1)]
set_option maxRecDepth 100000 in
theorem okX11_init : ∀ q ∈ kX11_init, decode cX11_init q.1 = .ok (q.2.1, q.2.2) := dkL (by decide +kernel)
theorem mdX11 : MadeOK mX11_init := ⟨⟨in_Tg (in_t1 (List.mem_of_getElem? (i := 28) (by decide +kernel))) rfl, in_Tg (in_t1 (List.mem_of_getElem? (i := 1) (by decide +kernel))) rfl, in_Tg (in_t1 (List.mem_of_getElem? (i := 29) (by decide +kernel))) rfl⟩, ⟨rfl, rfl⟩, by decide +kernel, by decide⟩
theorem insX11 : Cond.instantiable RX11 15 ∈ Tg := in_Tg (in_t1 (List.mem_of_getElem? (i := 26) (by decide +kernel))) rfl
theorem iniX11 : Cond.initialized RX11 ∈ Tg := in_Tg (in_t1 (List.mem_of_getElem? (i := 1) (by decide +kernel))) rfl
theorem liX11_3 : Cond.methodLink RX11 3 objectInit ∈ Tg := in_Tg (in_t1 (List.mem_of_getElem? (i := 30) (by decide +kernel))) rfl
theorem clX11_9 : Cond.classLink RX11 9 RX1 ∈ Tg := in_Tg (in_t1 (List.mem_of_getElem? (i := 33) (by decide +kernel))) rfl
theorem liX11_11 : Cond.methodLinkNest RX11 11 yX1_init RX11 ∈ Ng := in_Ng (in_t1 (List.mem_of_getElem? (i := 35) (by decide +kernel))) rfl
theorem pcX11_12 : PutC RX11 12 11 0 (.object "VotingFloor$Floor") := ⟨RX11, TX11, 15, tyX11, rfl, by decide, iTX11, in_Tg (in_t2 (List.mem_of_getElem? (i := 38) (by decide +kernel))) rfl, tyX11_ok, nmX11, Or.inr ⟨rfl, rfl⟩, by decide +kernel⟩
theorem pcX11_16 : PutC RX11 16 11 1 (.object "VotingFloor$Floor") := ⟨RX11, TX11, 15, tyX11, rfl, by decide, iTX11, in_Tg (in_t2 (List.mem_of_getElem? (i := 39) (by decide +kernel))) rfl, tyX11_ok, nmX11, Or.inr ⟨rfl, rfl⟩, by decide +kernel⟩
theorem clX11_19 : Cond.classLink RX11 19 RX5 ∈ Tg := in_Tg (in_t1 (List.mem_of_getElem? (i := 81) (by decide +kernel))) rfl
theorem liX11_21 : Cond.methodLink RX11 21 yX5_init ∈ Tg := in_Tg (in_t1 (List.mem_of_getElem? (i := 83) (by decide +kernel))) rfl
theorem pcX11_22 : PutC RX11 22 11 2 (.object "VotingFloor$Rule") := ⟨RX11, TX11, 15, tyX11, rfl, by decide, iTX11, in_Tg (in_t2 (List.mem_of_getElem? (i := 40) (by decide +kernel))) rfl, tyX11_ok, nmX11, Or.inr ⟨rfl, rfl⟩, by decide +kernel⟩
theorem pcX11_26 : PutC RX11 26 11 3 (.object "VotingFloor$Rule") := ⟨RX11, TX11, 15, tyX11, rfl, by decide, iTX11, in_Tg (in_t2 (List.mem_of_getElem? (i := 41) (by decide +kernel))) rfl, tyX11_ok, nmX11, Or.inr ⟨rfl, rfl⟩, by decide +kernel⟩
theorem clX11_29 : Cond.classLink RX11 29 RX9 ∈ Tg := in_Tg (in_t1 (List.mem_of_getElem? (i := 137) (by decide +kernel))) rfl
theorem liX11_31 : Cond.methodLinkNest RX11 31 yX9_init RX11 ∈ Ng := in_Ng (in_t1 (List.mem_of_getElem? (i := 139) (by decide +kernel))) rfl
theorem pcX11_32 : PutC RX11 32 11 4 (.object "VotingFloor$Text") := ⟨RX11, TX11, 15, tyX11, rfl, by decide, iTX11, in_Tg (in_t2 (List.mem_of_getElem? (i := 42) (by decide +kernel))) rfl, tyX11_ok, nmX11, Or.inr ⟨rfl, rfl⟩, by decide +kernel⟩
theorem clX11_36 : Cond.classLink RX11 36 RX10 ∈ Tg := in_Tg (in_t1 (List.mem_of_getElem? (i := 153) (by decide +kernel))) rfl
theorem liX11_38 : Cond.methodLinkNest RX11 38 yX10_init RX11 ∈ Ng := in_Ng (in_t1 (List.mem_of_getElem? (i := 155) (by decide +kernel))) rfl
theorem pcX11_39 : PutC RX11 39 11 5 (.object "VotingFloor$Told") := ⟨RX11, TX11, 15, tyX11, rfl, by decide, iTX11, in_Tg (in_t2 (List.mem_of_getElem? (i := 43) (by decide +kernel))) rfl, tyX11_ok, nmX11, Or.inr ⟨rfl, rfl⟩, by decide +kernel⟩
theorem clX11_43 : Cond.classLink RX11 43 RX3 ∈ Tg := in_Tg (in_t1 (List.mem_of_getElem? (i := 169) (by decide +kernel))) rfl
theorem liX11_45 : Cond.methodLinkNest RX11 45 yX3_init RX11 ∈ Ng := in_Ng (in_t1 (List.mem_of_getElem? (i := 171) (by decide +kernel))) rfl
theorem pcX11_46 : PutC RX11 46 11 6 (.object "VotingFloor$Past") := ⟨RX11, TX11, 15, tyX11, rfl, by decide, iTX11, in_Tg (in_t2 (List.mem_of_getElem? (i := 44) (by decide +kernel))) rfl, tyX11_ok, nmX11, Or.inr ⟨rfl, rfl⟩, by decide +kernel⟩
theorem clX11_50 : Cond.classLink RX11 50 RX8 ∈ Tg := in_Tg (in_t1 (List.mem_of_getElem? (i := 193) (by decide +kernel))) rfl
theorem liX11_52 : Cond.methodLinkNest RX11 52 yX8_init RX11 ∈ Ng := in_Ng (in_t1 (List.mem_of_getElem? (i := 195) (by decide +kernel))) rfl
theorem pcX11_53 : PutC RX11 53 11 7 (.object "VotingFloor$Sums") := ⟨RX11, TX11, 15, tyX11, rfl, by decide, iTX11, in_Tg (in_t2 (List.mem_of_getElem? (i := 45) (by decide +kernel))) rfl, tyX11_ok, nmX11, Or.inr ⟨rfl, rfl⟩, by decide +kernel⟩
theorem clX11_57 : Cond.classLink RX11 57 RX7 ∈ Tg := in_Tg (in_t1 (List.mem_of_getElem? (i := 218) (by decide +kernel))) rfl
theorem liX11_59 : Cond.methodLinkNest RX11 59 yX7_init RX11 ∈ Ng := in_Ng (in_t1 (List.mem_of_getElem? (i := 220) (by decide +kernel))) rfl
theorem pcX11_60 : PutC RX11 60 11 8 (.object "VotingFloor$Strides") := ⟨RX11, TX11, 15, tyX11, rfl, by decide, iTX11, in_Tg (in_t2 (List.mem_of_getElem? (i := 46) (by decide +kernel))) rfl, tyX11_ok, nmX11, Or.inr ⟨rfl, rfl⟩, by decide +kernel⟩
theorem clX11_64 : Cond.classLink RX11 64 RX6 ∈ Tg := in_Tg (in_t1 (List.mem_of_getElem? (i := 231) (by decide +kernel))) rfl
theorem liX11_66 : Cond.methodLinkNest RX11 66 yX6_init RX11 ∈ Ng := in_Ng (in_t1 (List.mem_of_getElem? (i := 233) (by decide +kernel))) rfl
theorem pcX11_67 : PutC RX11 67 11 9 (.object "VotingFloor$Sightings") := ⟨RX11, TX11, 15, tyX11, rfl, by decide, iTX11, in_Tg (in_t2 (List.mem_of_getElem? (i := 47) (by decide +kernel))) rfl, tyX11_ok, nmX11, Or.inr ⟨rfl, rfl⟩, by decide +kernel⟩
theorem clX11_71 : Cond.classLink RX11 71 RX2 ∈ Tg := in_Tg (in_t2 (List.mem_of_getElem? (i := 11) (by decide +kernel))) rfl
theorem liX11_73 : Cond.methodLinkNest RX11 73 yX2_init RX11 ∈ Ng := in_Ng (in_t2 (List.mem_of_getElem? (i := 13) (by decide +kernel))) rfl
theorem pcX11_74 : PutC RX11 74 11 10 (.object "VotingFloor$Hearsay") := ⟨RX11, TX11, 15, tyX11, rfl, by decide, iTX11, in_Tg (in_t2 (List.mem_of_getElem? (i := 48) (by decide +kernel))) rfl, tyX11_ok, nmX11, Or.inr ⟨rfl, rfl⟩, by decide +kernel⟩
theorem clX11_78 : Cond.classLink RX11 78 RX0 ∈ Tg := in_Tg (in_t2 (List.mem_of_getElem? (i := 28) (by decide +kernel))) rfl
theorem liX11_80 : Cond.methodLinkNest RX11 80 yX0_init RX11 ∈ Ng := in_Ng (in_t2 (List.mem_of_getElem? (i := 30) (by decide +kernel))) rfl
theorem pcX11_81 : PutC RX11 81 11 11 (.object "VotingFloor$Draws") := ⟨RX11, TX11, 15, tyX11, rfl, by decide, iTX11, in_Tg (in_t2 (List.mem_of_getElem? (i := 49) (by decide +kernel))) rfl, tyX11_ok, nmX11, Or.inr ⟨rfl, rfl⟩, by decide +kernel⟩
theorem pcX11_85 : PutC RX11 85 11 12 (.array .int) := ⟨RX11, TX11, 15, tyX11, rfl, by decide, iTX11, in_Tg (in_t2 (List.mem_of_getElem? (i := 50) (by decide +kernel))) rfl, tyX11_ok, nmX11, Or.inr ⟨rfl, rfl⟩, by decide +kernel⟩
theorem pcX11_89 : PutC RX11 89 11 13 (.array .int) := ⟨RX11, TX11, 15, tyX11, rfl, by decide, iTX11, in_Tg (in_t2 (List.mem_of_getElem? (i := 51) (by decide +kernel))) rfl, tyX11_ok, nmX11, Or.inr ⟨rfl, rfl⟩, by decide +kernel⟩
theorem pcX11_92 : PutC RX11 92 11 14 (.array .int) := ⟨RX11, TX11, 15, tyX11, rfl, by decide, iTX11, in_Tg (in_t2 (List.mem_of_getElem? (i := 52) (by decide +kernel))) rfl, tyX11_ok, nmX11, Or.inr ⟨rfl, rfl⟩, by decide +kernel⟩
abbrev zX12 : List Value := [.int 0, .int 0, .null, .int 0, .int 0, .null, .null, .null, .null, .int 0, .int 0, .int 0, .int 0, .int 0, .null, .null, .int 0, .null, .null, .int 0, .int 0, .null, .null, .int 0, .null, .null, .null, .null, .null, .int 0, .null, .int 0, .null, .null, .null, .null, .int 0, .null, .null, .null, .null, .int 0, .null, .null, .null]
theorem dfX12 : ∀ j, j < 45 → defaultValue (tyX12 j) = vp_V zX12 j
  | 0, _ => rfl
  | 1, _ => rfl
  | 2, _ => rfl
  | 3, _ => rfl
  | 4, _ => rfl
  | 5, _ => rfl
  | 6, _ => rfl
  | 7, _ => rfl
  | 8, _ => rfl
  | 9, _ => rfl
  | 10, _ => rfl
  | 11, _ => rfl
  | 12, _ => rfl
  | 13, _ => rfl
  | 14, _ => rfl
  | 15, _ => rfl
  | 16, _ => rfl
  | 17, _ => rfl
  | 18, _ => rfl
  | 19, _ => rfl
  | 20, _ => rfl
  | 21, _ => rfl
  | 22, _ => rfl
  | 23, _ => rfl
  | 24, _ => rfl
  | 25, _ => rfl
  | 26, _ => rfl
  | 27, _ => rfl
  | 28, _ => rfl
  | 29, _ => rfl
  | 30, _ => rfl
  | 31, _ => rfl
  | 32, _ => rfl
  | 33, _ => rfl
  | 34, _ => rfl
  | 35, _ => rfl
  | 36, _ => rfl
  | 37, _ => rfl
  | 38, _ => rfl
  | 39, _ => rfl
  | 40, _ => rfl
  | 41, _ => rfl
  | 42, _ => rfl
  | 43, _ => rfl
  | 44, _ => rfl
  | j + 45, h => absurd h (by omega)
abbrev mX12_init : Mx := (yX12_init, cX12_init, 1, none)
def kX12_init : List (Nat × Instr × Nat) := [(0, .aload_n 0, 1), (1, .invokespecial 22, 3), (4, .aload_n 0, 1), (5, .bipush 24, 2), (7, .newarray .long, 2), (9, .putfield 11, 3), (12, .aload_n 0, 1), (13, .bipush 7, 2), (15, .newarray .int, 2), (17, .putfield 28, 3), (20, .aload_n 0, 1), (21, .bipush 24, 2), (23, .newarray .int, 2), (25, .putfield 32, 3), (28, .aload_n 0, 1), (29, .bipush 24, 2), (31, .newarray .int, 2), (33, .putfield 35, 3), (36, .aload_n 0, 1), (37, .bipush 80, 2), (39, .newarray .int, 2), (41, .putfield 38, 3), (44, .aload_n 0, 1), (45, .bipush 7, 2), (47, .newarray .int, 2), (49, .putfield 41, 3), (52, .aload_n 0, 1), (53, .bipush 7, 2), (55, .newarray .int, 2), (57, .putfield 44, 3), (60, .aload_n 0, 1), (61, .bipush 80, 2), (63, .newarray .int, 2), (65, .putfield 47, 3), (68, .aload_n 0, 1), (69, .bipush 80, 2), (71, .newarray .int, 2), (73, .putfield 50, 3), (76, .aload_n 0, 1), (77, .bipush 80, 2), (79, .newarray .int, 2), (81, .putfield 53, 3), (84, .aload_n 0, 1), (85, .bipush 7, 2), (87, .newarray .int, 2), (89, .putfield 56, 3), (92, .aload_n 0, 1), (93, .sipush 384, 3), (96, .newarray .int, 2), (98, .putfield 59, 3), (101, .aload_n 0, 1), (102, .bipush 7, 2), (104, .newarray .int, 2), (106, .putfield 62, 3), (109, .aload_n 0, 1), (110, .bipush 60, 2), (112, .newarray .int, 2), (114, .putfield 65, 3), (117, .aload_n 0, 1), (118, .bipush 60, 2), (120, .newarray .int, 2), (122, .putfield 68, 3), (125, .aload_n 0, 1), (126, .bipush 60, 2), (128, .newarray .int, 2), (130, .putfield 71, 3), (133, .aload_n 0, 1), (134, .sipush 1016, 3), (137, .newarray .int, 2), (139, .putfield 74, 3), (142, .aload_n 0, 1), (143, .bipush 10, 2), (145, .newarray .int, 2), (147, .putfield 77, 3), (150, .aload_n 0, 1), (151, .bipush 10, 2), (153, .newarray .int, 2), (155, .putfield 80, 3), (158, .aload_n 0, 1), (159, .bipush 10, 2), (161, .newarray .int, 2), (163, .putfield 83, 3), (166, .aload_n 0, 1), (167, .sipush 399, 3), (170, .newarray .int, 2), (172, .putfield 86, 3), (175, .aload_n 0, 1), (176, .bipush 12, 2), (178, .newarray .int, 2), (180, .putfield 89, 3), (183, .aload_n 0, 1), (184, .bipush 12, 2), (186, .newarray .int, 2), (188, .putfield 92, 3), (191, .aload_n 0, 1), (192, .sipush 610, 3), (195, .newarray .int, 2), (197, .putfield 95, 3), (200, .aload_n 0, 1), (201, .bipush 80, 2), (203, .newarray .int, 2), (205, .putfield 98, 3), (208, .aload_n 0, 1), (209, .iconst 3, 1), (210, .newarray .boolean, 2), (212, .putfield 101, 3), (215, .aload_n 0, 1), (216, .iconst 3, 1), (217, .newarray .int, 2), (219, .putfield 105, 3), (222, .aload_n 0, 1), (223, .bipush 72, 2), (225, .newarray .int, 2), (227, .putfield 108, 3), (230, .aload_n 0, 1), (231, .getfield 32, 3), (234, .bipush 23, 2), (236, .bipush 12, 2), (238, .iastore, 1), (239, .return_, 1)]
set_option maxRecDepth 100000 in
theorem okX12_init : ∀ q ∈ kX12_init, decode cX12_init q.1 = .ok (q.2.1, q.2.2) := dkL (by decide +kernel)
theorem mdX12 : MadeOK mX12_init := ⟨⟨in_Tg (in_t5 (List.mem_of_getElem? (i := 157) (by decide +kernel))) rfl, in_Tg (in_t1 (List.mem_of_getElem? (i := 13) (by decide +kernel))) rfl, in_Tg (in_t5 (List.mem_of_getElem? (i := 158) (by decide +kernel))) rfl⟩, ⟨rfl, rfl⟩, by decide +kernel, by decide⟩
theorem insX12 : Cond.instantiable RX12 45 ∈ Tg := in_Tg (in_t5 (List.mem_of_getElem? (i := 155) (by decide +kernel))) rfl
theorem iniX12 : Cond.initialized RX12 ∈ Tg := in_Tg (in_t1 (List.mem_of_getElem? (i := 13) (by decide +kernel))) rfl
theorem liX12_22 : Cond.methodLink RX12 22 objectInit ∈ Tg := in_Tg (in_t5 (List.mem_of_getElem? (i := 159) (by decide +kernel))) rfl
theorem pcX12_11 : PutC RX12 11 12 2 (.array .long) := ⟨RX12, TX12, 45, tyX12, rfl, by decide, iTX12, in_Tg (in_t5 (List.mem_of_getElem? (i := 162) (by decide +kernel))) rfl, tyX12_ok, nmX12, Or.inr ⟨rfl, rfl⟩, by decide +kernel⟩
theorem pcX12_28 : PutC RX12 28 12 5 (.array .int) := ⟨RX12, TX12, 45, tyX12, rfl, by decide, iTX12, in_Tg (in_t5 (List.mem_of_getElem? (i := 165) (by decide +kernel))) rfl, tyX12_ok, nmX12, Or.inr ⟨rfl, rfl⟩, by decide +kernel⟩
theorem pcX12_32 : PutC RX12 32 12 6 (.array .int) := ⟨RX12, TX12, 45, tyX12, rfl, by decide, iTX12, in_Tg (in_t5 (List.mem_of_getElem? (i := 166) (by decide +kernel))) rfl, tyX12_ok, nmX12, Or.inr ⟨rfl, rfl⟩, by decide +kernel⟩
theorem pcX12_35 : PutC RX12 35 12 7 (.array .int) := ⟨RX12, TX12, 45, tyX12, rfl, by decide, iTX12, in_Tg (in_t5 (List.mem_of_getElem? (i := 167) (by decide +kernel))) rfl, tyX12_ok, nmX12, Or.inr ⟨rfl, rfl⟩, by decide +kernel⟩
theorem pcX12_38 : PutC RX12 38 12 8 (.array .int) := ⟨RX12, TX12, 45, tyX12, rfl, by decide, iTX12, in_Tg (in_t5 (List.mem_of_getElem? (i := 168) (by decide +kernel))) rfl, tyX12_ok, nmX12, Or.inr ⟨rfl, rfl⟩, by decide +kernel⟩
theorem pcX12_41 : PutC RX12 41 12 14 (.array .int) := ⟨RX12, TX12, 45, tyX12, rfl, by decide, iTX12, in_Tg (in_t5 (List.mem_of_getElem? (i := 174) (by decide +kernel))) rfl, tyX12_ok, nmX12, Or.inr ⟨rfl, rfl⟩, by decide +kernel⟩
theorem pcX12_44 : PutC RX12 44 12 15 (.array .int) := ⟨RX12, TX12, 45, tyX12, rfl, by decide, iTX12, in_Tg (in_t5 (List.mem_of_getElem? (i := 175) (by decide +kernel))) rfl, tyX12_ok, nmX12, Or.inr ⟨rfl, rfl⟩, by decide +kernel⟩
theorem pcX12_47 : PutC RX12 47 12 17 (.array .int) := ⟨RX12, TX12, 45, tyX12, rfl, by decide, iTX12, in_Tg (in_t5 (List.mem_of_getElem? (i := 177) (by decide +kernel))) rfl, tyX12_ok, nmX12, Or.inr ⟨rfl, rfl⟩, by decide +kernel⟩
theorem pcX12_50 : PutC RX12 50 12 18 (.array .int) := ⟨RX12, TX12, 45, tyX12, rfl, by decide, iTX12, in_Tg (in_t5 (List.mem_of_getElem? (i := 178) (by decide +kernel))) rfl, tyX12_ok, nmX12, Or.inr ⟨rfl, rfl⟩, by decide +kernel⟩
theorem pcX12_53 : PutC RX12 53 12 21 (.array .int) := ⟨RX12, TX12, 45, tyX12, rfl, by decide, iTX12, in_Tg (in_t5 (List.mem_of_getElem? (i := 181) (by decide +kernel))) rfl, tyX12_ok, nmX12, Or.inr ⟨rfl, rfl⟩, by decide +kernel⟩
theorem pcX12_56 : PutC RX12 56 12 22 (.array .int) := ⟨RX12, TX12, 45, tyX12, rfl, by decide, iTX12, in_Tg (in_t5 (List.mem_of_getElem? (i := 182) (by decide +kernel))) rfl, tyX12_ok, nmX12, Or.inr ⟨rfl, rfl⟩, by decide +kernel⟩
theorem pcX12_59 : PutC RX12 59 12 24 (.array .int) := ⟨RX12, TX12, 45, tyX12, rfl, by decide, iTX12, in_Tg (in_t5 (List.mem_of_getElem? (i := 184) (by decide +kernel))) rfl, tyX12_ok, nmX12, Or.inr ⟨rfl, rfl⟩, by decide +kernel⟩
theorem pcX12_62 : PutC RX12 62 12 25 (.array .int) := ⟨RX12, TX12, 45, tyX12, rfl, by decide, iTX12, in_Tg (in_t5 (List.mem_of_getElem? (i := 185) (by decide +kernel))) rfl, tyX12_ok, nmX12, Or.inr ⟨rfl, rfl⟩, by decide +kernel⟩
theorem pcX12_65 : PutC RX12 65 12 26 (.array .int) := ⟨RX12, TX12, 45, tyX12, rfl, by decide, iTX12, in_Tg (in_t5 (List.mem_of_getElem? (i := 186) (by decide +kernel))) rfl, tyX12_ok, nmX12, Or.inr ⟨rfl, rfl⟩, by decide +kernel⟩
theorem pcX12_68 : PutC RX12 68 12 27 (.array .int) := ⟨RX12, TX12, 45, tyX12, rfl, by decide, iTX12, in_Tg (in_t5 (List.mem_of_getElem? (i := 187) (by decide +kernel))) rfl, tyX12_ok, nmX12, Or.inr ⟨rfl, rfl⟩, by decide +kernel⟩
theorem pcX12_71 : PutC RX12 71 12 28 (.array .int) := ⟨RX12, TX12, 45, tyX12, rfl, by decide, iTX12, in_Tg (in_t5 (List.mem_of_getElem? (i := 188) (by decide +kernel))) rfl, tyX12_ok, nmX12, Or.inr ⟨rfl, rfl⟩, by decide +kernel⟩
theorem pcX12_74 : PutC RX12 74 12 30 (.array .int) := ⟨RX12, TX12, 45, tyX12, rfl, by decide, iTX12, in_Tg (in_t5 (List.mem_of_getElem? (i := 190) (by decide +kernel))) rfl, tyX12_ok, nmX12, Or.inr ⟨rfl, rfl⟩, by decide +kernel⟩
theorem pcX12_77 : PutC RX12 77 12 32 (.array .int) := ⟨RX12, TX12, 45, tyX12, rfl, by decide, iTX12, in_Tg (in_t5 (List.mem_of_getElem? (i := 192) (by decide +kernel))) rfl, tyX12_ok, nmX12, Or.inr ⟨rfl, rfl⟩, by decide +kernel⟩
theorem pcX12_80 : PutC RX12 80 12 33 (.array .int) := ⟨RX12, TX12, 45, tyX12, rfl, by decide, iTX12, in_Tg (in_t5 (List.mem_of_getElem? (i := 193) (by decide +kernel))) rfl, tyX12_ok, nmX12, Or.inr ⟨rfl, rfl⟩, by decide +kernel⟩
theorem pcX12_83 : PutC RX12 83 12 34 (.array .int) := ⟨RX12, TX12, 45, tyX12, rfl, by decide, iTX12, in_Tg (in_t5 (List.mem_of_getElem? (i := 194) (by decide +kernel))) rfl, tyX12_ok, nmX12, Or.inr ⟨rfl, rfl⟩, by decide +kernel⟩
theorem pcX12_86 : PutC RX12 86 12 35 (.array .int) := ⟨RX12, TX12, 45, tyX12, rfl, by decide, iTX12, in_Tg (in_t5 (List.mem_of_getElem? (i := 195) (by decide +kernel))) rfl, tyX12_ok, nmX12, Or.inr ⟨rfl, rfl⟩, by decide +kernel⟩
theorem pcX12_89 : PutC RX12 89 12 37 (.array .int) := ⟨RX12, TX12, 45, tyX12, rfl, by decide, iTX12, in_Tg (in_t5 (List.mem_of_getElem? (i := 197) (by decide +kernel))) rfl, tyX12_ok, nmX12, Or.inr ⟨rfl, rfl⟩, by decide +kernel⟩
theorem pcX12_92 : PutC RX12 92 12 38 (.array .int) := ⟨RX12, TX12, 45, tyX12, rfl, by decide, iTX12, in_Tg (in_t5 (List.mem_of_getElem? (i := 198) (by decide +kernel))) rfl, tyX12_ok, nmX12, Or.inr ⟨rfl, rfl⟩, by decide +kernel⟩
theorem pcX12_95 : PutC RX12 95 12 39 (.array .int) := ⟨RX12, TX12, 45, tyX12, rfl, by decide, iTX12, in_Tg (in_t5 (List.mem_of_getElem? (i := 199) (by decide +kernel))) rfl, tyX12_ok, nmX12, Or.inr ⟨rfl, rfl⟩, by decide +kernel⟩
theorem pcX12_98 : PutC RX12 98 12 40 (.array .int) := ⟨RX12, TX12, 45, tyX12, rfl, by decide, iTX12, in_Tg (in_t5 (List.mem_of_getElem? (i := 200) (by decide +kernel))) rfl, tyX12_ok, nmX12, Or.inr ⟨rfl, rfl⟩, by decide +kernel⟩
theorem pcX12_101 : PutC RX12 101 12 42 (.array .boolean) := ⟨RX12, TX12, 45, tyX12, rfl, by decide, iTX12, in_Tg (in_t5 (List.mem_of_getElem? (i := 202) (by decide +kernel))) rfl, tyX12_ok, nmX12, Or.inr ⟨rfl, rfl⟩, by decide +kernel⟩
theorem pcX12_105 : PutC RX12 105 12 43 (.array .int) := ⟨RX12, TX12, 45, tyX12, rfl, by decide, iTX12, in_Tg (in_t5 (List.mem_of_getElem? (i := 203) (by decide +kernel))) rfl, tyX12_ok, nmX12, Or.inr ⟨rfl, rfl⟩, by decide +kernel⟩
theorem pcX12_108 : PutC RX12 108 12 44 (.array .int) := ⟨RX12, TX12, 45, tyX12, rfl, by decide, iTX12, in_Tg (in_t5 (List.mem_of_getElem? (i := 204) (by decide +kernel))) rfl, tyX12_ok, nmX12, Or.inr ⟨rfl, rfl⟩, by decide +kernel⟩
theorem li5_45 : Cond.methodLink RX5 45 yX5_becomeNone ∈ Tg := in_Tg (in_t1 (List.mem_of_getElem? (i := 100) (by decide +kernel))) rfl
theorem clL_8 : Cond.classLink RL 8 RX11 ∈ Tg := in_Tg (in_t1 (List.mem_of_getElem? (i := 25) (by decide +kernel))) rfl
theorem clL_20 : Cond.classLink RL 20 RX12 ∈ Tg := in_Tg (in_t5 (List.mem_of_getElem? (i := 154) (by decide +kernel))) rfl
theorem liL_19 : Cond.methodLink RL 19 yX11_init ∈ Tg := in_Tg (in_t1 (List.mem_of_getElem? (i := 27) (by decide +kernel))) rfl
theorem liL_22 : Cond.methodLink RL 22 yX12_init ∈ Tg := in_Tg (in_t5 (List.mem_of_getElem? (i := 156) (by decide +kernel))) rfl
def wX0 (B : Bx) (h : Nat) (a : Nat → Nat) : va_W := [(h, .inr (0, [.int 0]))]
def wX1 (B : Bx) (h : Nat) (a : Nat → Nat) : va_W := [(h, .inr (1, [.int 0, .ref (a 1), .ref (a 2), .ref (a 3), .ref (a 4), .int 0, .int 0, .int 12, .ref (a 5), .ref (a 6)])), (a 1, .inl (B.2.2 1, 7, .inl (fun _ => 0))), (a 2, .inl (B.2.2 1, 7, .inl (fun _ => 0))), (a 3, .inl (B.2.2 1, 7, .inl (fun _ => 0))), (a 4, .inl (B.2.2 1, 7, .inl (fun _ => 0))), (a 5, .inl (B.2.2 1, 7, .inl (fun _ => 0))), (a 6, .inl (B.2.2 1, 7, .inl (fun _ => 0)))]
def wX2 (B : Bx) (h : Nat) (a : Nat → Nat) : va_W := [(h, .inr (2, [.ref (a 1), .ref (a 2), .int 0])), (a 1, .inl (B.2.2 1, 12, .inl (fun _ => 0))), (a 2, .inl (B.2.2 1, 12, .inl (fun _ => 0)))]
def wX3 (B : Bx) (h : Nat) (a : Nat → Nat) : va_W := [(h, .inr (3, [.ref (a 1), .int 0, .int 0, .ref (a 2), .ref (a 3)])), (a 1, .inl (B.2.2 1, 384, .inl (fun _ => 0))), (a 2, .inl (B.2.2 1, 72, .inl (fun _ => 0))), (a 3, .inl (B.2.2 3, 3, .inl (fun _ => 0)))]
def wX4 (B : Bx) (h : Nat) (a : Nat → Nat) : va_W := [(h, .inr (4, [.ref (a 1), .int 0])), (a 1, .inl (B.2.2 1, 41, .inl (fun _ => 0)))]
def wX5 (B : Bx) (h : Nat) (a : Nat → Nat) : va_W := [(h, .inr (5, [.ref (a 1), .int 3, .int 0, .ref (a 2), .ref (a 3), .int 1, .int 0, .int 0, .int 0])), (a 1, .inl (B.2.2 1, 41, .inl (upd (upd (upd (fun _ => 0) 0 (-1)) 1 (-2)) 2 (-45)))), (a 2, .inl (B.2.2 1, 41, .inl (fun _ => 0))), (a 3, .inr (4, [.ref (a 4), .int 0])), (a 4, .inl (B.2.2 1, 41, .inl (fun _ => 0)))]
def wX6 (B : Bx) (h : Nat) (a : Nat → Nat) : va_W := [(h, .inr (6, [.ref (a 1), .ref (a 2), .ref (a 3), .int 0])), (a 1, .inl (B.2.2 1, 10, .inl (fun _ => 0))), (a 2, .inl (B.2.2 1, 10, .inl (fun _ => 0))), (a 3, .inl (B.2.2 1, 10, .inl (fun _ => 0)))]
def wX7 (B : Bx) (h : Nat) (a : Nat → Nat) : va_W := [(h, .inr (7, [.ref (a 1), .ref (a 2)])), (a 1, .inl (B.2.2 1, 7, .inl (fun _ => 0))), (a 2, .inl (B.2.2 1, 7, .inl (fun _ => 0)))]
def wX8 (B : Bx) (h : Nat) (a : Nat → Nat) : va_W := [(h, .inr (8, [.ref (a 1), .int 0, .int 0, .int 0, .int 0])), (a 1, .inl (B.2.2 1, 7, .inl (fun _ => 0)))]
def wX9 (B : Bx) (h : Nat) (a : Nat → Nat) : va_W := [(h, .inr (9, [.ref (a 1), .int 0])), (a 1, .inl (B.2.2 0, 80, .inl (fun _ => 0)))]
def wX10 (B : Bx) (h : Nat) (a : Nat → Nat) : va_W := [(h, .inr (10, [.ref (a 1), .int 0])), (a 1, .inl (B.2.2 2, 16, .inr (.inl (fun _ => 0))))]
def wX11 (B : Bx) (h : Nat) (a : Nat → Nat) : va_W := [(h, .inr (11, [.ref (a 1), .ref (a 8), .ref (a 15), .ref (a 20), .ref (a 25), .ref (a 27), .ref (a 29), .ref (a 33), .ref (a 35), .ref (a 38), .ref (a 42), .ref (a 45), .ref (a 46), .ref (a 47), .ref (a 48)])), (a 1, .inr (1, [.int 0, .ref (a 2), .ref (a 3), .ref (a 4), .ref (a 5), .int 0, .int 0, .int 12, .ref (a 6), .ref (a 7)])), (a 2, .inl (B.2.2 1, 7, .inl (fun _ => 0))), (a 3, .inl (B.2.2 1, 7, .inl (fun _ => 0))), (a 4, .inl (B.2.2 1, 7, .inl (fun _ => 0))), (a 5, .inl (B.2.2 1, 7, .inl (fun _ => 0))), (a 6, .inl (B.2.2 1, 7, .inl (fun _ => 0))), (a 7, .inl (B.2.2 1, 7, .inl (fun _ => 0))), (a 8, .inr (1, [.int 0, .ref (a 9), .ref (a 10), .ref (a 11), .ref (a 12), .int 0, .int 0, .int 12, .ref (a 13), .ref (a 14)])), (a 9, .inl (B.2.2 1, 7, .inl (fun _ => 0))), (a 10, .inl (B.2.2 1, 7, .inl (fun _ => 0))), (a 11, .inl (B.2.2 1, 7, .inl (fun _ => 0))), (a 12, .inl (B.2.2 1, 7, .inl (fun _ => 0))), (a 13, .inl (B.2.2 1, 7, .inl (fun _ => 0))), (a 14, .inl (B.2.2 1, 7, .inl (fun _ => 0))), (a 15, .inr (5, [.ref (a 16), .int 3, .int 0, .ref (a 17), .ref (a 18), .int 1, .int 0, .int 0, .int 0])), (a 16, .inl (B.2.2 1, 41, .inl (upd (upd (upd (fun _ => 0) 0 (-1)) 1 (-2)) 2 (-45)))), (a 17, .inl (B.2.2 1, 41, .inl (fun _ => 0))), (a 18, .inr (4, [.ref (a 19), .int 0])), (a 19, .inl (B.2.2 1, 41, .inl (fun _ => 0))), (a 20, .inr (5, [.ref (a 21), .int 3, .int 0, .ref (a 22), .ref (a 23), .int 1, .int 0, .int 0, .int 0])), (a 21, .inl (B.2.2 1, 41, .inl (upd (upd (upd (fun _ => 0) 0 (-1)) 1 (-2)) 2 (-45)))), (a 22, .inl (B.2.2 1, 41, .inl (fun _ => 0))), (a 23, .inr (4, [.ref (a 24), .int 0])), (a 24, .inl (B.2.2 1, 41, .inl (fun _ => 0))), (a 25, .inr (9, [.ref (a 26), .int 0])), (a 26, .inl (B.2.2 0, 80, .inl (fun _ => 0))), (a 27, .inr (10, [.ref (a 28), .int 0])), (a 28, .inl (B.2.2 2, 16, .inr (.inl (fun _ => 0)))), (a 29, .inr (3, [.ref (a 30), .int 0, .int 0, .ref (a 31), .ref (a 32)])), (a 30, .inl (B.2.2 1, 384, .inl (fun _ => 0))), (a 31, .inl (B.2.2 1, 72, .inl (fun _ => 0))), (a 32, .inl (B.2.2 3, 3, .inl (fun _ => 0))), (a 33, .inr (8, [.ref (a 34), .int 0, .int 0, .int 0, .int 0])), (a 34, .inl (B.2.2 1, 7, .inl (fun _ => 0))), (a 35, .inr (7, [.ref (a 36), .ref (a 37)])), (a 36, .inl (B.2.2 1, 7, .inl (fun _ => 0))), (a 37, .inl (B.2.2 1, 7, .inl (fun _ => 0))), (a 38, .inr (6, [.ref (a 39), .ref (a 40), .ref (a 41), .int 0])), (a 39, .inl (B.2.2 1, 10, .inl (fun _ => 0))), (a 40, .inl (B.2.2 1, 10, .inl (fun _ => 0))), (a 41, .inl (B.2.2 1, 10, .inl (fun _ => 0))), (a 42, .inr (2, [.ref (a 43), .ref (a 44), .int 0])), (a 43, .inl (B.2.2 1, 12, .inl (fun _ => 0))), (a 44, .inl (B.2.2 1, 12, .inl (fun _ => 0))), (a 45, .inr (0, [.int 0])), (a 46, .inl (B.2.2 1, 21, .inl (fun _ => 0))), (a 47, .inl (B.2.2 1, 399, .inl (fun _ => 0))), (a 48, .inl (B.2.2 1, 61, .inl (fun _ => 0)))]
def wX12 (B : Bx) (h : Nat) (a : Nat → Nat) : va_W := [(h, .inr (12, [.int 0, .int 0, .ref (a 1), .int 0, .int 0, .ref (a 2), .ref (a 3), .ref (a 4), .ref (a 5), .int 0, .int 0, .int 0, .int 0, .int 0, .ref (a 6), .ref (a 7), .int 0, .ref (a 8), .ref (a 9), .int 0, .int 0, .ref (a 10), .ref (a 11), .int 0, .ref (a 12), .ref (a 13), .ref (a 14), .ref (a 15), .ref (a 16), .int 0, .ref (a 17), .int 0, .ref (a 18), .ref (a 19), .ref (a 20), .ref (a 21), .int 0, .ref (a 22), .ref (a 23), .ref (a 24), .ref (a 25), .int 0, .ref (a 26), .ref (a 27), .ref (a 28)])), (a 1, .inl (B.2.2 2, 24, .inr (.inl (fun _ => 0)))), (a 2, .inl (B.2.2 1, 7, .inl (fun _ => 0))), (a 3, .inl (B.2.2 1, 24, .inl (upd (fun _ => 0) 23 12))), (a 4, .inl (B.2.2 1, 24, .inl (fun _ => 0))), (a 5, .inl (B.2.2 1, 80, .inl (fun _ => 0))), (a 6, .inl (B.2.2 1, 7, .inl (fun _ => 0))), (a 7, .inl (B.2.2 1, 7, .inl (fun _ => 0))), (a 8, .inl (B.2.2 1, 80, .inl (fun _ => 0))), (a 9, .inl (B.2.2 1, 80, .inl (fun _ => 0))), (a 10, .inl (B.2.2 1, 80, .inl (fun _ => 0))), (a 11, .inl (B.2.2 1, 7, .inl (fun _ => 0))), (a 12, .inl (B.2.2 1, 384, .inl (fun _ => 0))), (a 13, .inl (B.2.2 1, 7, .inl (fun _ => 0))), (a 14, .inl (B.2.2 1, 60, .inl (fun _ => 0))), (a 15, .inl (B.2.2 1, 60, .inl (fun _ => 0))), (a 16, .inl (B.2.2 1, 60, .inl (fun _ => 0))), (a 17, .inl (B.2.2 1, 1016, .inl (fun _ => 0))), (a 18, .inl (B.2.2 1, 10, .inl (fun _ => 0))), (a 19, .inl (B.2.2 1, 10, .inl (fun _ => 0))), (a 20, .inl (B.2.2 1, 10, .inl (fun _ => 0))), (a 21, .inl (B.2.2 1, 399, .inl (fun _ => 0))), (a 22, .inl (B.2.2 1, 12, .inl (fun _ => 0))), (a 23, .inl (B.2.2 1, 12, .inl (fun _ => 0))), (a 24, .inl (B.2.2 1, 610, .inl (fun _ => 0))), (a 25, .inl (B.2.2 1, 80, .inl (fun _ => 0))), (a 26, .inl (B.2.2 3, 3, .inl (fun _ => 0))), (a 27, .inl (B.2.2 1, 3, .inl (fun _ => 0))), (a 28, .inl (B.2.2 1, 72, .inl (fun _ => 0)))]

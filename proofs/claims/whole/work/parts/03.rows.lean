/-! rows of the judgement: an instruction each -/
section JR
variable {E : Ex} {G : Gx} {d : Nat} {M : Mx} {Q : Option Value → Mm → Prop} {pc : Nat} {ls : List (Nat × Value)} {st : List Value} {μ : Mm}
theorem J_iconst {n : Int} {v : Int32} (hd : decode M.2.1 pc = .ok (.iconst n, 1)) (hv : Int32.ofInt n = v) (k : J E G d M Q (pc + 1) ls (.int v :: st) μ) : J E G d M Q pc ls (st) μ :=
  fun hF H locs lsA hP hS hl => lv_iconst hF.1 hF.2.1 hd hv (k hF H locs lsA hP hS hl)
theorem J_bipush {n : Int} {v : Int32} (hd : decode M.2.1 pc = .ok (.bipush n, 2)) (hv : (Int8.ofInt n).toInt32 = v) (k : J E G d M Q (pc + 2) ls (.int v :: st) μ) : J E G d M Q pc ls (st) μ :=
  fun hF H locs lsA hP hS hl => lv_bipush hF.1 hF.2.1 hd hv (k hF H locs lsA hP hS hl)
theorem J_sipush {n : Int} {v : Int32} (hd : decode M.2.1 pc = .ok (.sipush n, 3)) (hv : (Int16.ofInt n).toInt32 = v) (k : J E G d M Q (pc + 3) ls (.int v :: st) μ) : J E G d M Q pc ls (st) μ :=
  fun hF H locs lsA hP hS hl => lv_sipush hF.1 hF.2.1 hd hv (k hF H locs lsA hP hS hl)
theorem J_lconst {n : Fin 2} {v : Int64} (hd : decode M.2.1 pc = .ok (.lconst n, 1)) (hv : Int64.ofNat (n : Nat) = v) (k : J E G d M Q (pc + 1) ls (.long v :: st) μ) : J E G d M Q pc ls (st) μ :=
  fun hF H locs lsA hP hS hl => lv_lconst hF.1 hF.2.1 hd hv (k hF H locs lsA hP hS hl)
theorem J_iload_n {k0 : Fin 4} {i : Nat} {x : Int32} (hd : decode M.2.1 pc = .ok (.iload_n k0, 1)) (p : Nat) (hi : (k0 : Nat) = i) (hl0 : ls[p]? = some (i, .int x)) (k : J E G d M Q (pc + 1) ls (.int x :: st) μ) : J E G d M Q pc ls (st) μ :=
  fun hF H locs lsA hP hS hl => lv_iload_n hF.1 hF.2.1 hd hi (lv_at hl p hl0) (k hF H locs lsA hP hS hl)
theorem J_iload {i : Nat} {x : Int32} (hd : decode M.2.1 pc = .ok (.iload i, 2)) (p : Nat) (hl0 : ls[p]? = some (i, .int x)) (k : J E G d M Q (pc + 2) ls (.int x :: st) μ) : J E G d M Q pc ls (st) μ :=
  fun hF H locs lsA hP hS hl => lv_iload hF.1 hF.2.1 hd (lv_at hl p hl0) (k hF H locs lsA hP hS hl)
theorem J_lload_n {k0 : Fin 4} {i : Nat} {x : Int64} (hd : decode M.2.1 pc = .ok (.lload_n k0, 1)) (p : Nat) (hi : (k0 : Nat) = i) (hl0 : ls[p]? = some (i, .long x)) (k : J E G d M Q (pc + 1) ls (.long x :: st) μ) : J E G d M Q pc ls (st) μ :=
  fun hF H locs lsA hP hS hl => lv_lload_n hF.1 hF.2.1 hd hi (lv_at hl p hl0) (k hF H locs lsA hP hS hl)
theorem J_lload {i : Nat} {x : Int64} (hd : decode M.2.1 pc = .ok (.lload i, 2)) (p : Nat) (hl0 : ls[p]? = some (i, .long x)) (k : J E G d M Q (pc + 2) ls (.long x :: st) μ) : J E G d M Q pc ls (st) μ :=
  fun hF H locs lsA hP hS hl => lv_lload hF.1 hF.2.1 hd (lv_at hl p hl0) (k hF H locs lsA hP hS hl)
theorem J_aload_n {k0 : Fin 4} {i r : Nat} (hd : decode M.2.1 pc = .ok (.aload_n k0, 1)) (p : Nat) (hi : (k0 : Nat) = i) (hl0 : ls[p]? = some (i, rf E r)) (k : J E G d M Q (pc + 1) ls (rf E r :: st) μ) : J E G d M Q pc ls (st) μ :=
  fun hF H locs lsA hP hS hl => lv_aload_n hF.1 hF.2.1 hd hi (lv_at hl p hl0) (k hF H locs lsA hP hS hl)
theorem J_aload {i r : Nat} (hd : decode M.2.1 pc = .ok (.aload i, 2)) (p : Nat) (hl0 : ls[p]? = some (i, rf E r)) (k : J E G d M Q (pc + 2) ls (rf E r :: st) μ) : J E G d M Q pc ls (st) μ :=
  fun hF H locs lsA hP hS hl => lv_aload hF.1 hF.2.1 hd (lv_at hl p hl0) (k hF H locs lsA hP hS hl)
theorem J_aload_nx {k0 : Fin 4} {i r : Nat} (hd : decode M.2.1 pc = .ok (.aload_n k0, 1)) (p : Nat) (hi : (k0 : Nat) = i) (hl0 : ls[p]? = some (i, .ref r)) (k : J E G d M Q (pc + 1) ls (.ref r :: st) μ) : J E G d M Q pc ls (st) μ :=
  fun hF H locs lsA hP hS hl => lv_aload_n hF.1 hF.2.1 hd hi (lv_at hl p hl0) (k hF H locs lsA hP hS hl)
theorem J_aloadx {i r : Nat} (hd : decode M.2.1 pc = .ok (.aload i, 2)) (p : Nat) (hl0 : ls[p]? = some (i, .ref r)) (k : J E G d M Q (pc + 2) ls (.ref r :: st) μ) : J E G d M Q pc ls (st) μ :=
  fun hF H locs lsA hP hS hl => lv_aload hF.1 hF.2.1 hd (lv_at hl p hl0) (k hF H locs lsA hP hS hl)
theorem J_istore_n {k0 : Fin 4} {i : Nat} {x : Int32} (hd : decode M.2.1 pc = .ok (.istore_n k0, 1)) (hi : (k0 : Nat) = i) {ls' : List (Nat × Value)} (hn : i < M.2.2.1) (hl0 : (i, Value.int x) :: ls.filter (fun q => !(q.1 == i) && !(q.1 + 1 == i && q.2.category == 2)) = ls') (k : J E G d M Q (pc + 1) ls' st μ) : J E G d M Q pc ls (.int x :: st) μ :=
  fun hF H locs lsA hP hS hl => lv_istore_n hF.1 hF.2.1 hd hi hl hn hl0 (fun lsB hlB => k hF H locs lsB hP hS hlB)
theorem J_istore {i : Nat} {x : Int32} (hd : decode M.2.1 pc = .ok (.istore i, 2)) {ls' : List (Nat × Value)} (hn : i < M.2.2.1) (hl0 : (i, Value.int x) :: ls.filter (fun q => !(q.1 == i) && !(q.1 + 1 == i && q.2.category == 2)) = ls') (k : J E G d M Q (pc + 2) ls' st μ) : J E G d M Q pc ls (.int x :: st) μ :=
  fun hF H locs lsA hP hS hl => lv_istore hF.1 hF.2.1 hd hl hn hl0 (fun lsB hlB => k hF H locs lsB hP hS hlB)
theorem J_lstore_n {k0 : Fin 4} {i : Nat} {x : Int64} (hd : decode M.2.1 pc = .ok (.lstore_n k0, 1)) (hi : (k0 : Nat) = i) {ls' : List (Nat × Value)} (hn : i + 1 < M.2.2.1) (hl0 : (i, Value.long x) :: ls.filter (fun q => !(q.1 == i) && (!(q.1 == i + 1) && !(q.1 + 1 == i && q.2.category == 2))) = ls') (k : J E G d M Q (pc + 1) ls' st μ) : J E G d M Q pc ls (.long x :: st) μ :=
  fun hF H locs lsA hP hS hl => lv_lstore_n hF.1 hF.2.1 hd hi hl hn hl0 (fun lsB hlB => k hF H locs lsB hP hS hlB)
theorem J_lstore {i : Nat} {x : Int64} (hd : decode M.2.1 pc = .ok (.lstore i, 2)) {ls' : List (Nat × Value)} (hn : i + 1 < M.2.2.1) (hl0 : (i, Value.long x) :: ls.filter (fun q => !(q.1 == i) && (!(q.1 == i + 1) && !(q.1 + 1 == i && q.2.category == 2))) = ls') (k : J E G d M Q (pc + 2) ls' st μ) : J E G d M Q pc ls (.long x :: st) μ :=
  fun hF H locs lsA hP hS hl => lv_lstore hF.1 hF.2.1 hd hl hn hl0 (fun lsB hlB => k hF H locs lsB hP hS hlB)
theorem J_astore_n {k0 : Fin 4} {i r : Nat} (hd : decode M.2.1 pc = .ok (.astore_n k0, 1)) (hi : (k0 : Nat) = i) {ls' : List (Nat × Value)} (hn : i < M.2.2.1) (hl0 : (i, rf E r) :: ls.filter (fun q => !(q.1 == i) && !(q.1 + 1 == i && q.2.category == 2)) = ls') (k : J E G d M Q (pc + 1) ls' st μ) : J E G d M Q pc ls (rf E r :: st) μ :=
  fun hF H locs lsA hP hS hl => lv_astore_n hF.1 hF.2.1 hd hi hl hn hl0 (fun lsB hlB => k hF H locs lsB hP hS hlB)
theorem J_astore {i r : Nat} (hd : decode M.2.1 pc = .ok (.astore i, 2)) {ls' : List (Nat × Value)} (hn : i < M.2.2.1) (hl0 : (i, rf E r) :: ls.filter (fun q => !(q.1 == i) && !(q.1 + 1 == i && q.2.category == 2)) = ls') (k : J E G d M Q (pc + 2) ls' st μ) : J E G d M Q pc ls (rf E r :: st) μ :=
  fun hF H locs lsA hP hS hl => lv_astore hF.1 hF.2.1 hd hl hn hl0 (fun lsB hlB => k hF H locs lsB hP hS hlB)
theorem J_iinc {i : Nat} {n : Int} {x v : Int32} (hd : decode M.2.1 pc = .ok (.iinc i n, 3)) {ls' : List (Nat × Value)} (p : Nat) (hk : ls[p]? = some (i, .int x)) (hv : x + Int32.ofInt n = v) (hn : i < M.2.2.1) (hl0 : (i, Value.int v) :: ls.filter (fun q => !(q.1 == i) && !(q.1 + 1 == i && q.2.category == 2)) = ls') (k : J E G d M Q (pc + 3) ls' st μ) : J E G d M Q pc ls st μ :=
  fun hF H locs lsA hP hS hl => lv_iinc hF.1 hF.2.1 hd hl (k := p) hk hv hn hl0 (fun lsB hlB => k hF H locs lsB hP hS hlB)
theorem J_iadd {x y : Int32} (hd : decode M.2.1 pc = .ok (.iadd, 1)) (k : J E G d M Q (pc + 1) ls (.int (x + y) :: st) μ) : J E G d M Q pc ls (.int y :: .int x :: st) μ :=
  fun hF H locs lsA hP hS hl => lv_iadd hF.1 hF.2.1 hd (k hF H locs lsA hP hS hl)
theorem J_isub {x y : Int32} (hd : decode M.2.1 pc = .ok (.isub, 1)) (k : J E G d M Q (pc + 1) ls (.int (x - y) :: st) μ) : J E G d M Q pc ls (.int y :: .int x :: st) μ :=
  fun hF H locs lsA hP hS hl => lv_isub hF.1 hF.2.1 hd (k hF H locs lsA hP hS hl)
theorem J_imul {x y : Int32} (hd : decode M.2.1 pc = .ok (.imul, 1)) (k : J E G d M Q (pc + 1) ls (.int (x * y) :: st) μ) : J E G d M Q pc ls (.int y :: .int x :: st) μ :=
  fun hF H locs lsA hP hS hl => lv_imul hF.1 hF.2.1 hd (k hF H locs lsA hP hS hl)
theorem J_iand {x y : Int32} (hd : decode M.2.1 pc = .ok (.iand, 1)) (k : J E G d M Q (pc + 1) ls (.int (x &&& y) :: st) μ) : J E G d M Q pc ls (.int y :: .int x :: st) μ :=
  fun hF H locs lsA hP hS hl => lv_iand hF.1 hF.2.1 hd (k hF H locs lsA hP hS hl)
theorem J_ior {x y : Int32} (hd : decode M.2.1 pc = .ok (.ior, 1)) (k : J E G d M Q (pc + 1) ls (.int (x ||| y) :: st) μ) : J E G d M Q pc ls (.int y :: .int x :: st) μ :=
  fun hF H locs lsA hP hS hl => lv_ior hF.1 hF.2.1 hd (k hF H locs lsA hP hS hl)
theorem J_ixor {x y : Int32} (hd : decode M.2.1 pc = .ok (.ixor, 1)) (k : J E G d M Q (pc + 1) ls (.int (x ^^^ y) :: st) μ) : J E G d M Q pc ls (.int y :: .int x :: st) μ :=
  fun hF H locs lsA hP hS hl => lv_ixor hF.1 hF.2.1 hd (k hF H locs lsA hP hS hl)
theorem J_ishl {x y : Int32} (hd : decode M.2.1 pc = .ok (.ishl, 1)) (k : J E G d M Q (pc + 1) ls (.int (x <<< (y &&& 31)) :: st) μ) : J E G d M Q pc ls (.int y :: .int x :: st) μ :=
  fun hF H locs lsA hP hS hl => lv_ishl hF.1 hF.2.1 hd (k hF H locs lsA hP hS hl)
theorem J_ishr {x y : Int32} (hd : decode M.2.1 pc = .ok (.ishr, 1)) (k : J E G d M Q (pc + 1) ls (.int (x >>> (y &&& 31)) :: st) μ) : J E G d M Q pc ls (.int y :: .int x :: st) μ :=
  fun hF H locs lsA hP hS hl => lv_ishr hF.1 hF.2.1 hd (k hF H locs lsA hP hS hl)
theorem J_idiv {x y : Int32} (hd : decode M.2.1 pc = .ok (.idiv, 1)) (hne : ¬ y = 0) (k : J E G d M Q (pc + 1) ls (.int (x / y) :: st) μ) : J E G d M Q pc ls (.int y :: .int x :: st) μ :=
  fun hF H locs lsA hP hS hl => lv_idiv hF.1 hF.2.1 hd hne (k hF H locs lsA hP hS hl)
theorem J_irem {x y : Int32} (hd : decode M.2.1 pc = .ok (.irem, 1)) (hne : ¬ y = 0) (k : J E G d M Q (pc + 1) ls (.int (x - x / y * y) :: st) μ) : J E G d M Q pc ls (.int y :: .int x :: st) μ :=
  fun hF H locs lsA hP hS hl => lv_irem hF.1 hF.2.1 hd hne (k hF H locs lsA hP hS hl)
theorem J_ineg {x : Int32} (hd : decode M.2.1 pc = .ok (.ineg, 1)) (k : J E G d M Q (pc + 1) ls (.int (-x) :: st) μ) : J E G d M Q pc ls (.int x :: st) μ :=
  fun hF H locs lsA hP hS hl => lv_ineg hF.1 hF.2.1 hd (k hF H locs lsA hP hS hl)
theorem J_iushr {x y : Int32} (hd : decode M.2.1 pc = .ok (.iushr, 1)) (k : J E G d M Q (pc + 1) ls (.int ((x.toUInt32 >>> (y.toUInt32 &&& Int32.toUInt32 31)).toInt32) :: st) μ) : J E G d M Q pc ls (.int y :: .int x :: st) μ :=
  fun hF H locs lsA hP hS hl => lv_iushr hF.1 hF.2.1 hd rfl (k hF H locs lsA hP hS hl)
theorem J_ladd {x y : Int64} (hd : decode M.2.1 pc = .ok (.ladd, 1)) (k : J E G d M Q (pc + 1) ls (.long (x + y) :: st) μ) : J E G d M Q pc ls (.long y :: .long x :: st) μ :=
  fun hF H locs lsA hP hS hl => lv_ladd hF.1 hF.2.1 hd (k hF H locs lsA hP hS hl)
theorem J_lsub {x y : Int64} (hd : decode M.2.1 pc = .ok (.lsub, 1)) (k : J E G d M Q (pc + 1) ls (.long (x - y) :: st) μ) : J E G d M Q pc ls (.long y :: .long x :: st) μ :=
  fun hF H locs lsA hP hS hl => lv_lsub hF.1 hF.2.1 hd (k hF H locs lsA hP hS hl)
theorem J_lmul {x y : Int64} (hd : decode M.2.1 pc = .ok (.lmul, 1)) (k : J E G d M Q (pc + 1) ls (.long (x * y) :: st) μ) : J E G d M Q pc ls (.long y :: .long x :: st) μ :=
  fun hF H locs lsA hP hS hl => lv_lmul hF.1 hF.2.1 hd (k hF H locs lsA hP hS hl)
theorem J_ldiv {x y : Int64} (hd : decode M.2.1 pc = .ok (.ldiv, 1)) (hne : ¬ y = 0) (k : J E G d M Q (pc + 1) ls (.long (x / y) :: st) μ) : J E G d M Q pc ls (.long y :: .long x :: st) μ :=
  fun hF H locs lsA hP hS hl => lv_ldiv hF.1 hF.2.1 hd hne (k hF H locs lsA hP hS hl)
theorem J_lrem {x y : Int64} (hd : decode M.2.1 pc = .ok (.lrem, 1)) (hne : ¬ y = 0) (k : J E G d M Q (pc + 1) ls (.long (x - x / y * y) :: st) μ) : J E G d M Q pc ls (.long y :: .long x :: st) μ :=
  fun hF H locs lsA hP hS hl => lv_lrem hF.1 hF.2.1 hd hne (k hF H locs lsA hP hS hl)
theorem J_i2l {x : Int32} (hd : decode M.2.1 pc = .ok (.i2l, 1)) (k : J E G d M Q (pc + 1) ls (.long x.toInt64 :: st) μ) : J E G d M Q pc ls (.int x :: st) μ :=
  fun hF H locs lsA hP hS hl => lv_i2l hF.1 hF.2.1 hd rfl (k hF H locs lsA hP hS hl)
theorem J_l2i {x : Int64} (hd : decode M.2.1 pc = .ok (.l2i, 1)) (k : J E G d M Q (pc + 1) ls (.int x.toInt32 :: st) μ) : J E G d M Q pc ls (.long x :: st) μ :=
  fun hF H locs lsA hP hS hl => lv_l2i hF.1 hF.2.1 hd rfl (k hF H locs lsA hP hS hl)
theorem J_i2b {x : Int32} (hd : decode M.2.1 pc = .ok (.i2b, 1)) (k : J E G d M Q (pc + 1) ls (.int x.toInt8.toInt32 :: st) μ) : J E G d M Q pc ls (.int x :: st) μ :=
  fun hF H locs lsA hP hS hl => lv_i2b hF.1 hF.2.1 hd rfl (k hF H locs lsA hP hS hl)
theorem J_i2s {x : Int32} (hd : decode M.2.1 pc = .ok (.i2s, 1)) (k : J E G d M Q (pc + 1) ls (.int x.toInt16.toInt32 :: st) μ) : J E G d M Q pc ls (.int x :: st) μ :=
  fun hF H locs lsA hP hS hl => lv_i2s hF.1 hF.2.1 hd rfl (k hF H locs lsA hP hS hl)
theorem J_i2c {x : Int32} (hd : decode M.2.1 pc = .ok (.i2c, 1)) (k : J E G d M Q (pc + 1) ls (.int (x.toUInt32 % 65536).toInt32 :: st) μ) : J E G d M Q pc ls (.int x :: st) μ :=
  fun hF H locs lsA hP hS hl => lv_i2c hF.1 hF.2.1 hd rfl (k hF H locs lsA hP hS hl)
theorem J_lcmp {x y : Int64} (hd : decode M.2.1 pc = .ok (.lcmp, 1)) (k : J E G d M Q (pc + 1) ls (.int (lg_cmp x y) :: st) μ) : J E G d M Q pc ls (.long y :: .long x :: st) μ :=
  fun hF H locs lsA hP hS hl => W.lcmp hF.1 hF.2.1 hd (k hF H locs lsA hP hS hl)
theorem J_dup {v : Value} (hd : decode M.2.1 pc = .ok (.dup, 1)) (hc : v.category = 1) (k : J E G d M Q (pc + 1) ls (v :: v :: st) μ) : J E G d M Q pc ls (v :: st) μ :=
  fun hF H locs lsA hP hS hl => lv_dup hF.1 hF.2.1 hd hc (k hF H locs lsA hP hS hl)
theorem J_pop {v : Value} (hd : decode M.2.1 pc = .ok (.pop, 1)) (hc : v.category = 1) (k : J E G d M Q (pc + 1) ls (st) μ) : J E G d M Q pc ls (v :: st) μ :=
  fun hF H locs lsA hP hS hl => lv_pop hF.1 hF.2.1 hd hc (k hF H locs lsA hP hS hl)
theorem J_dup2 {v v2 : Value} (hd : decode M.2.1 pc = .ok (.dup2, 1)) (hc : v.category = 1) (hc2 : v2.category = 1) (k : J E G d M Q (pc + 1) ls (v :: v2 :: v :: v2 :: st) μ) : J E G d M Q pc ls (v :: v2 :: st) μ :=
  fun hF H locs lsA hP hS hl => lv_dup2_11 hF.1 hF.2.1 hd hc hc2 (k hF H locs lsA hP hS hl)
theorem J_if_eq {x : Int32} {off : Int} {tgt : Nat} (hd : decode M.2.1 pc = .ok (.ifCond .eq off, 3)) (ht : (pc : Int) + off = (tgt : Int)) (kt : x = 0 → J E G d M Q tgt ls st μ) (kf : ¬ x = 0 → J E G d M Q (pc + 3) ls st μ) : J E G d M Q pc ls (.int x :: st) μ :=
  fun hF H locs lsA hP hS hl => lv_if_eq hF.1 hF.2.1 hd ht (fun h => kt h hF H locs lsA hP hS hl) (fun h => kf h hF H locs lsA hP hS hl)
theorem J_icmp_eq {x y : Int32} {off : Int} {tgt : Nat} (hd : decode M.2.1 pc = .ok (.if_icmp .eq off, 3)) (ht : (pc : Int) + off = (tgt : Int)) (kt : x = y → J E G d M Q tgt ls st μ) (kf : ¬ x = y → J E G d M Q (pc + 3) ls st μ) : J E G d M Q pc ls (.int y :: .int x :: st) μ :=
  fun hF H locs lsA hP hS hl => lv_icmp_eq hF.1 hF.2.1 hd ht (fun h => kt h hF H locs lsA hP hS hl) (fun h => kf h hF H locs lsA hP hS hl)
theorem J_if_ne {x : Int32} {off : Int} {tgt : Nat} (hd : decode M.2.1 pc = .ok (.ifCond .ne off, 3)) (ht : (pc : Int) + off = (tgt : Int)) (kt : ¬ x = 0 → J E G d M Q tgt ls st μ) (kf : x = 0 → J E G d M Q (pc + 3) ls st μ) : J E G d M Q pc ls (.int x :: st) μ :=
  fun hF H locs lsA hP hS hl => lv_if_ne hF.1 hF.2.1 hd ht (fun h => kt h hF H locs lsA hP hS hl) (fun h => kf h hF H locs lsA hP hS hl)
theorem J_icmp_ne {x y : Int32} {off : Int} {tgt : Nat} (hd : decode M.2.1 pc = .ok (.if_icmp .ne off, 3)) (ht : (pc : Int) + off = (tgt : Int)) (kt : ¬ x = y → J E G d M Q tgt ls st μ) (kf : x = y → J E G d M Q (pc + 3) ls st μ) : J E G d M Q pc ls (.int y :: .int x :: st) μ :=
  fun hF H locs lsA hP hS hl => lv_icmp_ne hF.1 hF.2.1 hd ht (fun h => kt h hF H locs lsA hP hS hl) (fun h => kf h hF H locs lsA hP hS hl)
theorem J_if_lt {x : Int32} {off : Int} {tgt : Nat} (hd : decode M.2.1 pc = .ok (.ifCond .lt off, 3)) (ht : (pc : Int) + off = (tgt : Int)) (kt : x < 0 → J E G d M Q tgt ls st μ) (kf : ¬ x < 0 → J E G d M Q (pc + 3) ls st μ) : J E G d M Q pc ls (.int x :: st) μ :=
  fun hF H locs lsA hP hS hl => lv_if_lt hF.1 hF.2.1 hd ht (fun h => kt h hF H locs lsA hP hS hl) (fun h => kf h hF H locs lsA hP hS hl)
theorem J_icmp_lt {x y : Int32} {off : Int} {tgt : Nat} (hd : decode M.2.1 pc = .ok (.if_icmp .lt off, 3)) (ht : (pc : Int) + off = (tgt : Int)) (kt : x < y → J E G d M Q tgt ls st μ) (kf : ¬ x < y → J E G d M Q (pc + 3) ls st μ) : J E G d M Q pc ls (.int y :: .int x :: st) μ :=
  fun hF H locs lsA hP hS hl => lv_icmp_lt hF.1 hF.2.1 hd ht (fun h => kt h hF H locs lsA hP hS hl) (fun h => kf h hF H locs lsA hP hS hl)
theorem J_if_ge {x : Int32} {off : Int} {tgt : Nat} (hd : decode M.2.1 pc = .ok (.ifCond .ge off, 3)) (ht : (pc : Int) + off = (tgt : Int)) (kt : 0 ≤ x → J E G d M Q tgt ls st μ) (kf : ¬ 0 ≤ x → J E G d M Q (pc + 3) ls st μ) : J E G d M Q pc ls (.int x :: st) μ :=
  fun hF H locs lsA hP hS hl => lv_if_ge hF.1 hF.2.1 hd ht (fun h => kt h hF H locs lsA hP hS hl) (fun h => kf h hF H locs lsA hP hS hl)
theorem J_icmp_ge {x y : Int32} {off : Int} {tgt : Nat} (hd : decode M.2.1 pc = .ok (.if_icmp .ge off, 3)) (ht : (pc : Int) + off = (tgt : Int)) (kt : y ≤ x → J E G d M Q tgt ls st μ) (kf : ¬ y ≤ x → J E G d M Q (pc + 3) ls st μ) : J E G d M Q pc ls (.int y :: .int x :: st) μ :=
  fun hF H locs lsA hP hS hl => lv_icmp_ge hF.1 hF.2.1 hd ht (fun h => kt h hF H locs lsA hP hS hl) (fun h => kf h hF H locs lsA hP hS hl)
theorem J_if_gt {x : Int32} {off : Int} {tgt : Nat} (hd : decode M.2.1 pc = .ok (.ifCond .gt off, 3)) (ht : (pc : Int) + off = (tgt : Int)) (kt : 0 < x → J E G d M Q tgt ls st μ) (kf : ¬ 0 < x → J E G d M Q (pc + 3) ls st μ) : J E G d M Q pc ls (.int x :: st) μ :=
  fun hF H locs lsA hP hS hl => lv_if_gt hF.1 hF.2.1 hd ht (fun h => kt h hF H locs lsA hP hS hl) (fun h => kf h hF H locs lsA hP hS hl)
theorem J_icmp_gt {x y : Int32} {off : Int} {tgt : Nat} (hd : decode M.2.1 pc = .ok (.if_icmp .gt off, 3)) (ht : (pc : Int) + off = (tgt : Int)) (kt : y < x → J E G d M Q tgt ls st μ) (kf : ¬ y < x → J E G d M Q (pc + 3) ls st μ) : J E G d M Q pc ls (.int y :: .int x :: st) μ :=
  fun hF H locs lsA hP hS hl => lv_icmp_gt hF.1 hF.2.1 hd ht (fun h => kt h hF H locs lsA hP hS hl) (fun h => kf h hF H locs lsA hP hS hl)
theorem J_if_le {x : Int32} {off : Int} {tgt : Nat} (hd : decode M.2.1 pc = .ok (.ifCond .le off, 3)) (ht : (pc : Int) + off = (tgt : Int)) (kt : x ≤ 0 → J E G d M Q tgt ls st μ) (kf : ¬ x ≤ 0 → J E G d M Q (pc + 3) ls st μ) : J E G d M Q pc ls (.int x :: st) μ :=
  fun hF H locs lsA hP hS hl => lv_if_le hF.1 hF.2.1 hd ht (fun h => kt h hF H locs lsA hP hS hl) (fun h => kf h hF H locs lsA hP hS hl)
theorem J_icmp_le {x y : Int32} {off : Int} {tgt : Nat} (hd : decode M.2.1 pc = .ok (.if_icmp .le off, 3)) (ht : (pc : Int) + off = (tgt : Int)) (kt : x ≤ y → J E G d M Q tgt ls st μ) (kf : ¬ x ≤ y → J E G d M Q (pc + 3) ls st μ) : J E G d M Q pc ls (.int y :: .int x :: st) μ :=
  fun hF H locs lsA hP hS hl => lv_icmp_le hF.1 hF.2.1 hd ht (fun h => kt h hF H locs lsA hP hS hl) (fun h => kf h hF H locs lsA hP hS hl)
theorem J_goto {off : Int} {tgt : Nat} (hd : decode M.2.1 pc = .ok (.goto off, 3)) (ht : (pc : Int) + off = (tgt : Int)) (k : J E G d M Q tgt ls st μ) : J E G d M Q pc ls st μ :=
  fun hF H locs lsA hP hS hl => lv_goto hF.1 hF.2.1 hd ht (k hF H locs lsA hP hS hl)
theorem J_tableIn {dflt lo hi : Int} {offs : Array Int} {len : Nat} {x : Int32} {off : Int} {tgt : Nat} (hd : decode M.2.1 pc = .ok (.tableswitch dflt lo hi offs, len)) (h1 : ¬ x.toInt < lo) (h2 : ¬ hi < x.toInt) (ho : offs[(x.toInt - lo).toNat]? = some off) (ht : (pc : Int) + off = (tgt : Int)) (k : J E G d M Q tgt ls st μ) : J E G d M Q pc ls (.int x :: st) μ :=
  fun hF H locs lsA hP hS hl => lv_tableIn hF.1 hF.2.1 hd h1 h2 ho ht (k hF H locs lsA hP hS hl)
theorem J_tableOut {dflt lo hi : Int} {offs : Array Int} {len : Nat} {x : Int32} {tgt : Nat} (hd : decode M.2.1 pc = .ok (.tableswitch dflt lo hi offs, len)) (h : x.toInt < lo ∨ hi < x.toInt) (ht : (pc : Int) + dflt = (tgt : Int)) (k : J E G d M Q tgt ls st μ) : J E G d M Q pc ls (.int x :: st) μ :=
  fun hF H locs lsA hP hS hl => lv_tableOut hF.1 hF.2.1 hd h ht (k hF H locs lsA hP hS hl)
theorem J_lookup {dflt : Int} {ps : Array (Int × Int)} {len : Nat} {x : Int32} {off : Int} {tgt : Nat} (hd : decode M.2.1 pc = .ok (.lookupswitch dflt ps, len)) (hp : (ps.toList.zip (ps.toList.drop 1)).all (fun (a, next) => a.1 < next.1) = true) (ho : Op.lookupswitch.offset ps.toList dflt x.toInt = off) (ht : (pc : Int) + off = (tgt : Int)) (k : J E G d M Q tgt ls st μ) : J E G d M Q pc ls (.int x :: st) μ :=
  fun hF H locs lsA hP hS hl => lv_lookup hF.1 hF.2.1 hd hp ho ht (k hF H locs lsA hP hS hl)
theorem J_ldc {index : Nat} {v : Int32} (hd : decode M.2.1 pc = .ok (.ldc index, 2)) (hc : Cond.constant M.1.cls index v ∈ Tg) (k : J E G d M Q (pc + 2) ls (.int v :: st) μ) : J E G d M Q pc ls st μ :=
  fun hF H locs lsA hP hS hl => lv_ldc hF.1 hF.2.1 hF.2.2.2.2.2.1 (hF.2.2.2.2.2.2.1 _ hc) hd (k hF H locs lsA hP hS hl)
theorem J_ldc2 {index : Nat} {v : Int64} (hd : decode M.2.1 pc = .ok (.ldc2_w index, 3)) (hc : Cond.constantLong M.1.cls index v ∈ Tg) (k : J E G d M Q (pc + 3) ls (.long v :: st) μ) : J E G d M Q pc ls st μ :=
  fun hF H locs lsA hP hS hl => lv_ldc2 hF.1 hF.2.1 hF.2.2.2.2.2.1 (hF.2.2.2.2.2.2.1 _ hc) hd (k hF H locs lsA hP hS hl)
def FldOK (own : String) (idx ci slot : Nat) : Prop := ∃ (C : String) (T : u_T) (N : Nat), vwCl[ci]? = some (C, T, N) ∧ slot < N ∧ (∀ w ∈ u_ws C T N, w ∈ Tg) ∧ Cond.fieldLink own idx (T slot).1 (T slot).2.1 (T slot).2.2.1 ∈ Tg
def PutOK (own : String) (idx ci slot : Nat) (ty : FieldType) : Prop := ∃ (C : String) (T : u_T) (N : Nat) (ty0 : Nat → FieldType), vwCl[ci]? = some (C, T, N) ∧ slot < N ∧ (∀ w ∈ u_ws C T N, w ∈ Tg) ∧ Cond.fieldLink own idx (T slot).1 (T slot).2.1 (T slot).2.2.1 ∈ Tg ∧ (∀ k, k < N → parseFieldDescriptor (T k).2.2.1 = some (ty0 k)) ∧ (∀ a, a < N → ∀ b, b < N → a ≠ b → (T a).2.1 ≠ (T b).2.1) ∧ (T slot).2.2.2 = false ∧ parseFieldDescriptor (T slot).2.2.1 = some ty
theorem J_getI {k0 ci slot idx : Nat} {ks : List (Option Nat)} (hd : decode M.2.1 pc = .ok (.getfield idx, 3)) (hf : FldOK M.1.cls idx ci slot) (hk : dscL[k0]? = some (.inl (ci, ks))) (hs : ks[slot]? = some none) (k : J E G d M Q (pc + 3) ls (.int (μ.1 k0 slot) :: st) μ) : J E G d M Q pc ls (rf E k0 :: st) μ := by
  intro hF H locs lsA hP hS hl
  obtain ⟨C, T, N, h1, h2, h3, h4⟩ := hf
  exact va_get (v := .int (μ.1 k0 slot)) hF.1 hF.2.1 hF.2.2.2.2.2.2.1 h3 hF.2.2.2.2.2.1 hF.2.2.2.2.2.2.2.1 hP k0 (wld_at hk) h1 slot h2 (hF.2.2.2.2.2.2.1 _ h4) (fun _ h => h) (by rw [fvs_get ks 0 slot hs, Nat.zero_add]) hd (k hF H locs lsA hP hS hl)
theorem J_getR {k0 ci slot idx r : Nat} {ks : List (Option Nat)} (hd : decode M.2.1 pc = .ok (.getfield idx, 3)) (hf : FldOK M.1.cls idx ci slot) (hk : dscL[k0]? = some (.inl (ci, ks))) (hs : ks[slot]? = some (some r)) (k : J E G d M Q (pc + 3) ls (rf E r :: st) μ) : J E G d M Q pc ls (rf E k0 :: st) μ := by
  intro hF H locs lsA hP hS hl
  obtain ⟨C, T, N, h1, h2, h3, h4⟩ := hf
  exact va_get (v := rf E r) hF.1 hF.2.1 hF.2.2.2.2.2.2.1 h3 hF.2.2.2.2.2.1 hF.2.2.2.2.2.2.2.1 hP k0 (wld_at hk) h1 slot h2 (hF.2.2.2.2.2.2.1 _ h4) (fun _ h => h) (fvs_ref ks 0 slot hs) hd (k hF H locs lsA hP hS hl)
theorem J_put {k0 ci slot idx : Nat} {ty : FieldType} {v : Int32} {ks : List (Option Nat)} (hd : decode M.2.1 pc = .ok (.putfield idx, 3)) (hf : PutOK M.1.cls idx ci slot ty) (hk : dscL[k0]? = some (.inl (ci, ks))) (hs : ks[slot]? = some none) (hn : narrow ty (.int v) = .int v) (hfit : fits ty (.int v) = true) (k : J E G d M Q (pc + 3) ls st (upI μ k0 slot v)) : J E G d M Q pc ls (.int v :: rf E k0 :: st) μ := by
  intro hF H locs lsA hP hS hl
  obtain ⟨C, T, N, ty0, h1, h2, h3, h4, h5, h6, h7, h8⟩ := hf
  have hlen : slot < (fvs E (μ.1 k0) 0 ks).length := by
    rw [fvs_len]; exact (List.getElem?_eq_some_iff.mp hs).1
  refine va_put (v := .int v) hF.1 hF.2.1 hF.2.2.2.2.2.2.1 h3 ty0 h5 h6 hF.2.2.2.2.2.1 hF.2.2.2.2.2.2.2.1 hP (wld_D hF.2.2.2.2.2.2.2.2.2.1) hS k0 (wld_at hk) h1 slot h2 (hF.2.2.2.2.2.2.1 _ h4) (fun _ h => h) h7 h8 hn hfit hlen hd (fun H1 locs1 hP1 hD1 hS1 => ?_)
  rw [wld_fld hk hs] at hP1
  exact k hF H1 locs1 lsA hP1 hS1 hl
theorem J_iald {k0 n : Nat} {i : Int32} (hd : decode M.2.1 pc = .ok (.iaload, 1)) (hk : dscL[k0]? = some (.inr (.inl (1, n)))) (hin : vp_in i n) (k : J E G d M Q (pc + 1) ls (.int (μ.1 k0 i.toNatClampNeg) :: st) μ) : J E G d M Q pc ls (.int i :: rf E k0 :: st) μ :=
  fun hF H locs lsA hP hS hl => va_iald hF.1 hF.2.1 hF.2.2.2.2.2.2.2.1 hP k0 1 (wld_at hk) rfl hin hd (k hF H locs lsA hP hS hl)
theorem J_zald {k0 n : Nat} {i : Int32} (hd : decode M.2.1 pc = .ok (.baload, 1)) (hk : dscL[k0]? = some (.inr (.inl (3, n)))) (hin : vp_in i n) (k : J E G d M Q (pc + 1) ls (.int (μ.1 k0 i.toNatClampNeg) :: st) μ) : J E G d M Q pc ls (.int i :: rf E k0 :: st) μ :=
  fun hF H locs lsA hP hS hl => va_zald hF.1 hF.2.1 hF.2.2.2.2.2.2.2.1 hP k0 3 (wld_at hk) rfl hin hd (k hF H locs lsA hP hS hl)
theorem J_cald {k0 n : Nat} {i : Int32} (hd : decode M.2.1 pc = .ok (.caload, 1)) (hk : dscL[k0]? = some (.inr (.inl (0, n)))) (hin : vp_in i n) (k : J E G d M Q (pc + 1) ls (.int (μ.1 k0 i.toNatClampNeg) :: st) μ) : J E G d M Q pc ls (.int i :: rf E k0 :: st) μ :=
  fun hF H locs lsA hP hS hl => va_cald hF.1 hF.2.1 hF.2.2.2.2.2.2.2.1 hP k0 0 (wld_at hk) rfl hin hd (k hF H locs lsA hP hS hl)
theorem J_lald {k0 n : Nat} {i : Int32} (hd : decode M.2.1 pc = .ok (.laload, 1)) (hk : dscL[k0]? = some (.inr (.inr n))) (hin : vp_in i n) (k : J E G d M Q (pc + 1) ls (.long (μ.2 k0 i.toNatClampNeg) :: st) μ) : J E G d M Q pc ls (.int i :: rf E k0 :: st) μ :=
  fun hF H locs lsA hP hS hl => va_lald hF.1 hF.2.1 hF.2.2.2.2.2.2.2.1 hP k0 2 (wld_at hk) rfl hin hd (k hF H locs lsA hP hS hl)
theorem J_iast {k0 n : Nat} {i x : Int32} (hd : decode M.2.1 pc = .ok (.iastore, 1)) (hk : dscL[k0]? = some (.inr (.inl (1, n)))) (hin : vp_in i n) (k : J E G d M Q (pc + 1) ls st (upI μ k0 i.toNatClampNeg x)) : J E G d M Q pc ls (.int x :: .int i :: rf E k0 :: st) μ := by
  intro hF H locs lsA hP hS hl
  refine va_iast hF.1 hF.2.1 hF.2.2.2.2.2.2.2.1 hP (wld_D hF.2.2.2.2.2.2.2.2.2.1) hS k0 1 (wld_at hk) rfl hin hd (fun H1 locs1 hP1 hD1 hS1 => ?_)
  rw [wld_arr hk] at hP1
  exact k hF H1 locs1 lsA hP1 hS1 hl
theorem J_zast {k0 n : Nat} {i x : Int32} (hd : decode M.2.1 pc = .ok (.bastore, 1)) (hk : dscL[k0]? = some (.inr (.inl (3, n)))) (hin : vp_in i n) (k : J E G d M Q (pc + 1) ls st (upI μ k0 i.toNatClampNeg (vp_nar .boolean x))) : J E G d M Q pc ls (.int x :: .int i :: rf E k0 :: st) μ := by
  intro hF H locs lsA hP hS hl
  refine va_zast hF.1 hF.2.1 hF.2.2.2.2.2.2.2.1 hP (wld_D hF.2.2.2.2.2.2.2.2.2.1) hS k0 3 (wld_at hk) rfl hin hd (fun H1 locs1 hP1 hD1 hS1 => ?_)
  rw [wld_arr hk] at hP1
  exact k hF H1 locs1 lsA hP1 hS1 hl
theorem J_cast {k0 n : Nat} {i x : Int32} (hd : decode M.2.1 pc = .ok (.castore, 1)) (hk : dscL[k0]? = some (.inr (.inl (0, n)))) (hin : vp_in i n) (k : J E G d M Q (pc + 1) ls st (upI μ k0 i.toNatClampNeg (vp_nar .char x))) : J E G d M Q pc ls (.int x :: .int i :: rf E k0 :: st) μ := by
  intro hF H locs lsA hP hS hl
  refine va_cast hF.1 hF.2.1 hF.2.2.2.2.2.2.2.1 hP (wld_D hF.2.2.2.2.2.2.2.2.2.1) hS k0 0 (wld_at hk) rfl hin hd (fun H1 locs1 hP1 hD1 hS1 => ?_)
  rw [wld_arr hk] at hP1
  exact k hF H1 locs1 lsA hP1 hS1 hl
theorem J_last {k0 n : Nat} {i : Int32} {x : Int64} (hd : decode M.2.1 pc = .ok (.lastore, 1)) (hk : dscL[k0]? = some (.inr (.inr n))) (hin : vp_in i n) (k : J E G d M Q (pc + 1) ls st (upJ μ k0 i.toNatClampNeg x)) : J E G d M Q pc ls (.long x :: .int i :: rf E k0 :: st) μ := by
  intro hF H locs lsA hP hS hl
  refine va_last hF.1 hF.2.1 hF.2.2.2.2.2.2.2.1 hP (wld_D hF.2.2.2.2.2.2.2.2.2.1) hS k0 2 (wld_at hk) rfl hin hd (fun H1 locs1 hP1 hD1 hS1 => ?_)
  rw [wld_arrJ hk] at hP1
  exact k hF H1 locs1 lsA hP1 hS1 hl
theorem J_alen {k0 n t : Nat} (ht : t < 4) (ht2 : t ≠ 2) (hd : decode M.2.1 pc = .ok (.arraylength, 1)) (hk : dscL[k0]? = some (.inr (.inl (t, n)))) (k : J E G d M Q (pc + 1) ls (.int (Int32.ofNat n) :: st) μ) : J E G d M Q pc ls (rf E k0 :: st) μ := by
  intro hF H locs lsA hP hS hl
  have h3 : ∃ ty, (tysE E)[t]? = some (E.2.2.1 t, ty) := by
    rcases (show t = 0 ∨ t = 1 ∨ t = 3 by omega) with rfl | rfl | rfl
    · exact ⟨_, rfl⟩
    · exact ⟨_, rfl⟩
    · exact ⟨_, rfl⟩
  obtain ⟨ty, h3⟩ := h3
  exact va_alen hF.1 hF.2.1 hF.2.2.2.2.2.2.2.1 hP k0 t (wld_at hk) h3 rfl hd (k hF H locs lsA hP hS hl)
theorem J_alenJ {k0 n : Nat} (hd : decode M.2.1 pc = .ok (.arraylength, 1)) (hk : dscL[k0]? = some (.inr (.inr n))) (k : J E G d M Q (pc + 1) ls (.int (Int32.ofNat n) :: st) μ) : J E G d M Q pc ls (rf E k0 :: st) μ :=
  fun hF H locs lsA hP hS hl => va_alen hF.1 hF.2.1 hF.2.2.2.2.2.2.2.1 hP k0 2 (wld_at hk) rfl rfl hd (k hF H locs lsA hP hS hl)
theorem J_mmax {index : Nat} {x y : Int32} (hd : decode M.2.1 pc = .ok (.invokestatic index, 3)) (hk1 : Cond.methodLink M.1.cls index Lib.Math.max.name ∈ Tg) (hk2 : Cond.static Lib.Math.max.name ∈ Tg) (hk3 : Cond.initialized "java/lang/Math" ∈ Tg) (hk4 : Cond.code Lib.Math.max.name Lib.Math.max.code 2 (some .int) ∈ Tg) (hdd : 1 ≤ d) (hw : (st.map fun v => v.category).sum ≤ 40) (k : J E G d M Q (pc + 3) ls (.int (if x < y then y else x) :: st) μ) : J E G d M Q pc ls (.int y :: .int x :: st) μ :=
  fun hF H locs lsA hP hS hl => va_mmax hF.1 hF.2.1 (hF.2.2.1.trans hl.1.symm) hF.2.2.2.2.2.1 (hF.2.2.2.2.2.2.1 _ hk1) (hF.2.2.2.2.2.2.1 _ hk2) (hF.2.2.2.2.2.2.1 _ hk3) (hF.2.2.2.2.2.2.1 _ hk4) (Nat.le_trans hdd hF.2.2.2.2.2.2.2.2.2.2.2.1.1) (by have := hF.2.2.2.2.2.2.2.2.2.2.2.1.2.1; omega) hF.2.2.2.2.2.2.2.2.2.2.2.1.2.2.1 hF.2.2.2.2.2.2.2.2.2.2.2.1.2.2.2 hd (k hF H locs lsA hP hS hl)
theorem J_mmin {index : Nat} {x y : Int32} (hd : decode M.2.1 pc = .ok (.invokestatic index, 3)) (hk1 : Cond.methodLink M.1.cls index Lib.Math.min.name ∈ Tg) (hk2 : Cond.static Lib.Math.min.name ∈ Tg) (hk3 : Cond.initialized "java/lang/Math" ∈ Tg) (hk4 : Cond.code Lib.Math.min.name Lib.Math.min.code 2 (some .int) ∈ Tg) (hdd : 1 ≤ d) (hw : (st.map fun v => v.category).sum ≤ 40) (k : J E G d M Q (pc + 3) ls (.int (if y < x then y else x) :: st) μ) : J E G d M Q pc ls (.int y :: .int x :: st) μ :=
  fun hF H locs lsA hP hS hl => va_mmin hF.1 hF.2.1 (hF.2.2.1.trans hl.1.symm) hF.2.2.2.2.2.1 (hF.2.2.2.2.2.2.1 _ hk1) (hF.2.2.2.2.2.2.1 _ hk2) (hF.2.2.2.2.2.2.1 _ hk3) (hF.2.2.2.2.2.2.1 _ hk4) (Nat.le_trans hdd hF.2.2.2.2.2.2.2.2.2.2.2.1.1) (by have := hF.2.2.2.2.2.2.2.2.2.2.2.1.2.1; omega) hF.2.2.2.2.2.2.2.2.2.2.2.1.2.2.1 hF.2.2.2.2.2.2.2.2.2.2.2.1.2.2.2 hd (k hF H locs lsA hP hS hl)
theorem J_mabs {index : Nat} {x : Int32} (hd : decode M.2.1 pc = .ok (.invokestatic index, 3)) (hk1 : Cond.methodLink M.1.cls index Lib.Math.abs.name ∈ Tg) (hk2 : Cond.static Lib.Math.abs.name ∈ Tg) (hk3 : Cond.initialized "java/lang/Math" ∈ Tg) (hk4 : Cond.code Lib.Math.abs.name Lib.Math.abs.code 1 (some .int) ∈ Tg) (hdd : 1 ≤ d) (hw : (st.map fun v => v.category).sum ≤ 40) (k : J E G d M Q (pc + 3) ls (.int (if 0 ≤ x then x else 0 - x) :: st) μ) : J E G d M Q pc ls (.int x :: st) μ :=
  fun hF H locs lsA hP hS hl => va_mabs hF.1 hF.2.1 (hF.2.2.1.trans hl.1.symm) hF.2.2.2.2.2.1 (hF.2.2.2.2.2.2.1 _ hk1) (hF.2.2.2.2.2.2.1 _ hk2) (hF.2.2.2.2.2.2.1 _ hk3) (hF.2.2.2.2.2.2.1 _ hk4) (Nat.le_trans hdd hF.2.2.2.2.2.2.2.2.2.2.2.1.1) (by have := hF.2.2.2.2.2.2.2.2.2.2.2.1.2.1; omega) hF.2.2.2.2.2.2.2.2.2.2.2.1.2.2.1 hF.2.2.2.2.2.2.2.2.2.2.2.1.2.2.2 hd (k hF H locs lsA hP hS hl)
theorem J_iret {v : Int32} (hd : decode M.2.1 pc = .ok (.ireturn, 1)) (hr : M.2.2.2 = some .int) (k : Q (some (.int v)) μ) : J E G d M Q pc ls [.int v] μ :=
  fun hF H locs lsA hP hS hl => W_mono hF.2.2.2.2.2.2.2.2.2.2.2.2 (W.iret hF.1 hF.2.1 (hF.2.2.2.1.trans hr) (fun t ht hW => ⟨⟨_, μ, rfl, k, by rw [ht]; exact hP⟩, hS.F ht⟩) hS.2.2 hd hF.2.2.2.2.1)
theorem J_zret {v : Int32} {ty : FieldType} (hd : decode M.2.1 pc = .ok (.ireturn, 1)) (hr : M.2.2.2 = some ty) (hn : narrow ty (.int v) = .int v) (k : Q (some (.int v)) μ) : J E G d M Q pc ls [.int v] μ :=
  fun hF H locs lsA hP hS hl => W_mono hF.2.2.2.2.2.2.2.2.2.2.2.2 (W.zret hF.1 hF.2.1 (hF.2.2.2.1.trans hr) hn (fun t ht hW => ⟨⟨_, μ, rfl, k, by rw [ht]; exact hP⟩, hS.F ht⟩) hS.2.2 hd hF.2.2.2.2.1)
theorem J_lret {v : Int64} (hd : decode M.2.1 pc = .ok (.lreturn, 1)) (hr : M.2.2.2 = some .long) (k : Q (some (.long v)) μ) : J E G d M Q pc ls [.long v] μ :=
  fun hF H locs lsA hP hS hl => W_mono hF.2.2.2.2.2.2.2.2.2.2.2.2 (W.lret hF.1 hF.2.1 (hF.2.2.2.1.trans hr) (fun t ht hW => ⟨⟨_, μ, rfl, k, by rw [ht]; exact hP⟩, hS.F ht⟩) hS.2.2 hd hF.2.2.2.2.1)
theorem J_vret (hd : decode M.2.1 pc = .ok (.return_, 1)) (hr : M.2.2.2 = none) (k : Q none μ) : J E G d M Q pc ls [] μ :=
  fun hF H locs lsA hP hS hl => W_mono hF.2.2.2.2.2.2.2.2.2.2.2.2 (W.vret hF.1 hF.2.1 (hF.2.2.2.1.trans hr) (fun t ht hW => ⟨⟨_, μ, rfl, k, by rw [ht]; exact hP⟩, hS.F ht⟩) hS.2.2 hd hF.2.2.2.2.1)
theorem J_ldc_w {index : Nat} {v : Int32} (hd : decode M.2.1 pc = .ok (.ldc_w index, 3)) (hc : Cond.constant M.1.cls index v ∈ Tg) (k : J E G d M Q (pc + 3) ls (.int v :: st) μ) : J E G d M Q pc ls st μ :=
  fun hF H locs lsA hP hS hl => lv_ldcw hF.1 hF.2.1 hF.2.2.2.2.2.1 (hF.2.2.2.2.2.2.1 _ hc) hd (k hF H locs lsA hP hS hl)
def sf (E : Ex) (i : Nat) : Value := .ref (E.2.2.2.2.1 i)
def bf (E : Ex) (i : Nat) : Value := .ref (E.2.2.2.2.2 i)
theorem J_ldcS {index i : Nat} {tx : String} (hd : decode M.2.1 pc = .ok (.ldc index, 2)) (hc : (M.1.cls, index, tx, i) ∈ strLit) (k : J E G d M Q (pc + 2) ls (sf E i :: st) μ) : J E G d M Q pc ls st μ :=
  fun hF H locs lsA hP hS hl => va_ldcS hF.1 hF.2.1 hF.2.2.2.2.2.1 (hF.2.2.2.2.2.2.2.2.2.2.1.2.1 _ hc) hd (k hF H locs lsA hP hS hl)
theorem J_aload_nS {k0 : Fin 4} {i r : Nat} (hd : decode M.2.1 pc = .ok (.aload_n k0, 1)) (p : Nat) (hi : (k0 : Nat) = i) (hl0 : ls[p]? = some (i, sf E r)) (k : J E G d M Q (pc + 1) ls (sf E r :: st) μ) : J E G d M Q pc ls (st) μ :=
  fun hF H locs lsA hP hS hl => lv_aload_n hF.1 hF.2.1 hd hi (lv_at hl p hl0) (k hF H locs lsA hP hS hl)
theorem J_aload_nB {k0 : Fin 4} {i r : Nat} (hd : decode M.2.1 pc = .ok (.aload_n k0, 1)) (p : Nat) (hi : (k0 : Nat) = i) (hl0 : ls[p]? = some (i, bf E r)) (k : J E G d M Q (pc + 1) ls (bf E r :: st) μ) : J E G d M Q pc ls (st) μ :=
  fun hF H locs lsA hP hS hl => lv_aload_n hF.1 hF.2.1 hd hi (lv_at hl p hl0) (k hF H locs lsA hP hS hl)
theorem J_gets1 {idx : Nat} (hd : decode M.2.1 pc = .ok (.getstatic idx, 3)) (hl0 : Cond.fieldLink M.1.cls idx "java/lang/String" "COMPACT_STRINGS" "Z" ∈ Tg) (k : J E G d M Q (pc + 3) ls (.int 1 :: st) μ) : J E G d M Q pc ls st μ :=
  fun hF H locs lsA hP hS hl => va_gets hF.1 hF.2.1 hF.2.2.2.2.2.2.2.2.2.2.1.2.2.2.1 hS hF.2.2.2.2.2.1 (hF.2.2.2.2.2.2.1 _ hl0) (fun _ h => h) hd (k hF H locs lsA hP hS hl)
theorem J_getsQ {idx : Nat} (hd : decode M.2.1 pc = .ok (.getstatic idx, 3)) (hl0 : Cond.fieldLink M.1.cls idx "jdk/internal/util/Preconditions" "SIOOBE_FORMATTER" "Ljava/util/function/BiFunction;" ∈ Tg) (k : ∀ r : Option Nat, J E G d M Q (pc + 3) ls (va_rf r :: st) μ) : J E G d M Q pc ls st μ := by
  intro hF H locs lsA hP hS hl
  rcases hF.2.2.2.2.2.2.2.2.2.2.1.2.2.2.2.2.2.1 with h | ⟨t, h⟩
  · exact va_gets hF.1 hF.2.1 h hS hF.2.2.2.2.2.1 (hF.2.2.2.2.2.2.1 _ hl0) (fun _ h => h) hd (k none hF H locs lsA hP hS hl)
  · exact va_gets hF.1 hF.2.1 h hS hF.2.2.2.2.2.1 (hF.2.2.2.2.2.2.1 _ hl0) (fun _ h => h) hd (k (some t) hF H locs lsA hP hS hl)
theorem J_getV {idx i : Nat} (hd : decode M.2.1 pc = .ok (.getfield idx, 3)) (hl0 : Cond.fieldLink M.1.cls idx "java/lang/String" "value" "[B" ∈ Tg) (hi : i < strN) (k : J E G d M Q (pc + 3) ls (bf E i :: st) μ) : J E G d M Q pc ls (sf E i :: st) μ :=
  fun hF H locs lsA hP hS hl => vk_getf hF.1 hF.2.1 (hF.2.2.2.2.2.2.2.2.2.2.1.2.2.1.1 i hi).2.2.1 hS hF.2.2.2.2.2.1 (hF.2.2.2.2.2.2.1 _ hl0) (fun _ h => h) hd (k hF H locs lsA hP hS hl)
theorem J_getC {idx i : Nat} (hd : decode M.2.1 pc = .ok (.getfield idx, 3)) (hl0 : Cond.fieldLink M.1.cls idx "java/lang/String" "coder" "B" ∈ Tg) (hi : i < strN) (k : J E G d M Q (pc + 3) ls (.int 0 :: st) μ) : J E G d M Q pc ls (sf E i :: st) μ :=
  fun hF H locs lsA hP hS hl => vk_getf hF.1 hF.2.1 (hF.2.2.2.2.2.2.2.2.2.2.1.2.2.1.1 i hi).2.1 hS hF.2.2.2.2.2.1 (hF.2.2.2.2.2.2.1 _ hl0) (fun _ h => h) hd (k hF H locs lsA hP hS hl)
theorem J_blen {i : Nat} (hd : decode M.2.1 pc = .ok (.arraylength, 1)) (hi : i < strN) (k : J E G d M Q (pc + 1) ls (.int (Int32.ofNat (strLen.getD i 0)) :: st) μ) : J E G d M Q pc ls (bf E i :: st) μ :=
  fun hF H locs lsA hP hS hl => va_tlen hF.1 hF.2.1 (hF.2.2.2.2.2.2.2.2.2.2.1.2.2.1.1 i hi).2.2.2 hS rfl hd (k hF H locs lsA hP hS hl)
theorem J_bald {i : Nat} {j : Int32} (hd : decode M.2.1 pc = .ok (.baload, 1)) (hi : i < strN) (hin : vp_in j (strLen.getD i 0)) (k : J E G d M Q (pc + 1) ls (.int ((strByt.getD i []).getD j.toNatClampNeg 0) :: st) μ) : J E G d M Q pc ls (.int j :: bf E i :: st) μ :=
  fun hF H locs lsA hP hS hl => va_tb hF.1 hF.2.1 (hF.2.2.2.2.2.2.2.2.2.2.1.2.2.1.1 i hi).2.2.2 hS hin rfl hd (k hF H locs lsA hP hS hl)
end JR
/-! calls -/
def VirtOK (M' : Mx) (C : String) (n : Nat) : Prop := (Cond.instanceMethod M'.1 ∈ Tg ∧ Cond.selects C M'.1 M'.1 ∈ Tg ∧ Cond.initialized C ∈ Tg ∧ Cond.code M'.1 M'.2.1 M'.2.2.1 M'.2.2.2 ∈ Tg) ∧ (M'.1.cls = C ∧ M'.1.cls ≠ "java/lang/invoke/MethodHandle" ∧ M'.1.cls ≠ "java/lang/invoke/VarHandle" ∧ (parseMethodDescriptor M'.1.desc).map (fun d => d.parameters.length) = some n) ∧ M'.2.2.1 ≤ 41
def StatOK (M' : Mx) (n : Nat) : Prop := (Cond.static M'.1 ∈ Tg ∧ Cond.initialized M'.1.cls ∈ Tg ∧ Cond.code M'.1 M'.2.1 M'.2.2.1 M'.2.2.2 ∈ Tg) ∧ (M'.1.cls ≠ "java/lang/invoke/MethodHandle" ∧ M'.1.cls ≠ "java/lang/invoke/VarHandle" ∧ (parseMethodDescriptor M'.1.desc).map (fun d => d.parameters.length) = some n) ∧ M'.2.2.1 ≤ 41
section JC
variable {E : Ex} {G : Gx} {d : Nat} {M : Mx} {Q : Option Value → Mm → Prop} {pc : Nat} {ls : List (Nat × Value)} {st : List Value} {μ : Mm}
theorem J_run {d' : Nat} {M' : Mx} {vs : List Value} {stk : List Value} {a : Array Value}
    (hr : ∀ (H : Heap) (locs : List Loc) (lsA : Array Slot), Fx E d M Q G → va_P E.2.1 vwCl (wld E μ) H → va_S (gA G) (gs G).heap H locs → lv_has lsA M.2.2.1 ls →
      va_Run (gp G) E.1 (ge G) (gR G) (gs G) (gm G) (ga G) (gb G) (gM G) (gc G) H locs (gk G) (gl G) 0 0 (F0 (gm G) pc lsA stk) st (Qcx E (va_A (wld E μ) H.size) (fun v μ' => J E G d M Q (pc + 3) ls (v.toList ++ st) μ') a) (va_A (wld E μ) H.size)) :
    J E G d M Q pc ls stk μ := by
  intro hF H locs lsA hP hS hl T hT X
  obtain ⟨v, st₀, t, T', L, h0, X', hL, e1, e2, ⟨⟨v', μ', hv, hq, hP'⟩, hz, hk'⟩, stp⟩ := hr H locs lsA hF hP hS hl T hT X
  cases hv
  rw [h0] at hz hk'
  have hD : va_D (gA G) (wld E μ) := wld_D hF.2.2.2.2.2.2.2.2.2.1
  have hA : ∀ q, va_A (wld E μ) H.size q → gA G q := by
    intro q h
    rcases h with ⟨k, e, h⟩ | h
    · exact hD.2 k (q, e) h
    · exact hF.2.2.2.2.2.2.2.2.1 q (Nat.le_trans hS.1 h)
  obtain ⟨t2, a1, b1⟩ := hq hF T'.heap (locs ++ L) lsA (by rw [e1]; exact hP')
    ⟨Nat.le_trans hS.1 (by rw [e1]; exact hz), fun q h1 h2 => by rw [e1, hk' q (Nat.lt_of_lt_of_le h1 hS.1) (fun z => h2 (hA q z))]; exact hS.2.1 q h1 h2, fun q hq => by
      rcases List.mem_append.mp hq with h | h
      · exact hS.2.2 q h
      · exact hA _ (hL q h)⟩ hl T' rfl X'
  exact ⟨t2, stp t2 a1, b1⟩
theorem Con_blind {vs : List Value} {sz : Nat} : FrameBlind (Pcx E vs μ sz) :=
  fun a U g mk q => by
    obtain ⟨q0, q1, qP, qK, qD, qN⟩ := q
    exact ⟨q0, q1, qP, va_K.moved (u := U) (U := U.calling g mk a) (Vm.Alike.refl U.vm) qK, qD, Xk.same (s := U) rfl qN⟩
theorem Con_pre {vs : List Value} {s : State} {H : Heap} {A : Nat → Prop} {locs : List Loc} (hP : va_P E.2.1 vwCl (wld E μ) H) (hK : va_K E.2.1 vwCl (tysE E) s) (hD : va_D A (wld E μ)) (hX : Xk E A s s.heap) (hS : va_S A s.heap H locs) (hA : ∀ q : Nat, s.heap.size ≤ q → A q) : ∀ U : State, U.heap = H → s.WarmedH U.vm → Pcx E vs μ H.size vs.toArray U :=
  fun U hU hW => ⟨rfl, by rw [hU], by rw [hU]; exact hP, va_K.moved hW.alike hK, hD.weaken (fun _ _ _ _ => trivial), Xk.call hX hW hU hS.2.1 (fun q h => by
    rcases h with ⟨k, e, h⟩ | h
    · exact hD.2 k (q, e) h
    · exact hA q (Nat.le_trans hS.1 h))⟩
theorem J_callV {k0 ci idx n d' : Nat} {ks : List (Option Nat)} {M' : Mx} {As : List Value} {q : vw_C} {stk : List Value} (hd : decode M.2.1 pc = .ok (.invokevirtual idx, 3)) (hk : dscL[k0]? = some (.inl (ci, ks))) (hc : vwCl[ci]? = some q) (hM : VirtOK M' q.1 n) (hl0 : Cond.methodLink M.1.cls idx M'.1 ∈ Tg)
    (hn : As.length = n) (hst : stk = As.reverse ++ rf E k0 :: st) (hw : (st.map fun v => v.category).sum ≤ 8) (hdd : d' + 1 ≤ d)
    (con : Con E d' M' (rf E k0 :: As) μ (fun v μ' => J E G d M Q (pc + 3) ls (v.toList ++ st) μ')) : J E G d M Q pc ls stk μ := by
  refine J_run (st := st) (d' := d') (M' := M') (vs := As) (a := (rf E k0 :: As).toArray) ?_
  intro H locs lsA hF hP hS hl
  obtain ⟨⟨w1, w2, w3, w4⟩, hdd2, hml⟩ := hM
  have hG : GoodIn Tg (wsV M.1.cls idx q.1 M'.1 (.code M'.1 M'.2.1 M'.2.2.1 M'.2.2.2 :: Tg)) := by
    intro w hw
    refine Tg_good w ?_
    simp only [wsV, List.mem_append, List.mem_cons, List.not_mem_nil, or_false] at hw
    rcases hw with (rfl | rfl | rfl | rfl) | rfl | h
    · exact hl0
    · exact w1
    · exact w2
    · exact w3
    · exact w4
    · exact h
  exact va_runV (As := As) (rest := st) (g := F0 (gm G) pc lsA stk) ⟨hF.1, hF.2.1, hF.2.2.1, hF.2.2.2.2.2.1, hF.2.2.2.2.2.2.1⟩ (con H.size) (cwV n hF.2.2.2.2.2.2.1 hG rfl rfl rfl hdd2 ⟨Nat.le_trans hdd hF.2.2.2.2.2.2.2.2.2.2.2.1.1, by have := hF.2.2.2.2.2.2.2.2.2.2.2.1.2.1; show 8 + (M'.2.2.1 + 11) + 60 * d' ≤ _; omega⟩)
    ⟨Con_blind, va_recv hF.2.2.2.2.2.2.2.1 hP hc (wld_at hk), Con_pre hP hF.2.2.2.2.2.2.2.1 (wld_D hF.2.2.2.2.2.2.2.2.2.1) hF.2.2.2.2.2.2.2.2.2.2.1 hS hF.2.2.2.2.2.2.2.2.1⟩ rfl hn hl.1 hst (lv_room hw) hd ⟨hF.2.2.2.2.2.2.2.2.2.2.2.1.2.2.1, hF.2.2.2.2.2.2.2.2.2.2.2.1.2.2.2⟩
theorem J_callVS {i idx n d' : Nat} {M' : Mx} {As : List Value} {stk : List Value} (hd : decode M.2.1 pc = .ok (.invokevirtual idx, 3)) (hi : i < strN) (hM : VirtOK M' "java/lang/String" n) (hl0 : Cond.methodLink M.1.cls idx M'.1 ∈ Tg)
    (hn : As.length = n) (hst : stk = As.reverse ++ sf E i :: st) (hw : (st.map fun v => v.category).sum ≤ 8) (hdd : d' + 1 ≤ d)
    (con : Con E d' M' (sf E i :: As) μ (fun v μ' => J E G d M Q (pc + 3) ls (v.toList ++ st) μ')) : J E G d M Q pc ls stk μ := by
  refine J_run (st := st) (d' := d') (M' := M') (vs := As) (a := (sf E i :: As).toArray) ?_
  intro H locs lsA hF hP hS hl
  obtain ⟨⟨w1, w2, w3, w4⟩, hdd2, hml⟩ := hM
  have hG : GoodIn Tg (wsV M.1.cls idx "java/lang/String" M'.1 (.code M'.1 M'.2.1 M'.2.2.1 M'.2.2.2 :: Tg)) := by
    intro w hw
    refine Tg_good w ?_
    simp only [wsV, List.mem_append, List.mem_cons, List.not_mem_nil, or_false] at hw
    rcases hw with (rfl | rfl | rfl | rfl) | rfl | h
    · exact hl0
    · exact w1
    · exact w2
    · exact w3
    · exact w4
    · exact h
  exact va_runV (C := "java/lang/String") (As := As) (rest := st) (g := F0 (gm G) pc lsA stk) ⟨hF.1, hF.2.1, hF.2.2.1, hF.2.2.2.2.2.1, hF.2.2.2.2.2.2.1⟩ (con H.size) (cwV n hF.2.2.2.2.2.2.1 hG rfl rfl rfl hdd2 ⟨Nat.le_trans hdd hF.2.2.2.2.2.2.2.2.2.2.2.1.1, by have := hF.2.2.2.2.2.2.2.2.2.2.2.1.2.1; show 8 + (M'.2.2.1 + 11) + 60 * d' ≤ _; omega⟩)
    ⟨Con_blind, vk_recv hF.2.2.2.2.2.2.2.2.2.2.1.2.2.1 hi hS, Con_pre hP hF.2.2.2.2.2.2.2.1 (wld_D hF.2.2.2.2.2.2.2.2.2.1) hF.2.2.2.2.2.2.2.2.2.2.1 hS hF.2.2.2.2.2.2.2.2.1⟩ rfl hn hl.1 hst (lv_room hw) hd ⟨hF.2.2.2.2.2.2.2.2.2.2.2.1.2.2.1, hF.2.2.2.2.2.2.2.2.2.2.2.1.2.2.2⟩
theorem J_callVSi {i idx n d' : Nat} {M' : Mx} {As : List Value} {stk : List Value} (hd : decode M.2.1 pc = .ok (.invokevirtual idx, 3)) (hi : i < strN) (hM : VirtOK M' "java/lang/String" n) (hl0 : Cond.methodLink M.1.cls idx M'.1 ∈ Tg)
    (hn : As.length = n) (hst : stk = As.reverse ++ sf E i :: st) (hw : (st.map fun v => v.category).sum ≤ 8) (hdd : d' + 1 ≤ d)
    (con : Con E d' M' (sf E i :: As) μ (fun v μ' => ∃ r, v = some (.int r) ∧ J E G d M Q (pc + 3) ls (.int r :: st) μ')) : J E G d M Q pc ls stk μ :=
  J_callVS hd hi hM hl0 hn hst hw hdd (con.mono (fun v μ' h => by obtain ⟨r, rfl, h⟩ := h; exact h))
theorem J_callS {idx n d' : Nat} {M' : Mx} {As : List Value} {stk : List Value} (hd : decode M.2.1 pc = .ok (.invokestatic idx, 3)) (hM : StatOK M' n) (hl0 : Cond.methodLink M.1.cls idx M'.1 ∈ Tg)
    (hn : As.length = n) (hst : stk = As.reverse ++ st) (hw : (st.map fun v => v.category).sum ≤ 8) (hdd : d' + 1 ≤ d)
    (con : Con E d' M' As μ (fun v μ' => J E G d M Q (pc + 3) ls (v.toList ++ st) μ')) : J E G d M Q pc ls stk μ := by
  refine J_run (st := st) (d' := d') (M' := M') (vs := As) (a := As.toArray) ?_
  intro H locs lsA hF hP hS hl
  obtain ⟨⟨w1, w2, w4⟩, hdd2, hml⟩ := hM
  have hG : GoodIn Tg (.code M'.1 M'.2.1 M'.2.2.1 M'.2.2.2 :: Tg) := by
    intro w hw
    refine Tg_good w ?_
    rcases List.mem_cons.mp hw with rfl | h
    · exact w4
    · exact h
  exact va_runS (As := As) (rest := st) (g := F0 (gm G) pc lsA stk) ⟨hF.1, hF.2.1, hF.2.2.1, hF.2.2.2.2.2.1, hF.2.2.2.2.2.2.1⟩ (con H.size) ⟨callB_of n hF.2.2.2.2.2.2.1 hG rfl rfl rfl (hF.2.2.2.2.2.2.1 _ w2) (hF.2.2.2.2.2.2.1 _ hl0) hdd2 ⟨Nat.le_trans hdd hF.2.2.2.2.2.2.2.2.2.2.2.1.1, by have := hF.2.2.2.2.2.2.2.2.2.2.2.1.2.1; show 8 + (M'.2.2.1 + 11) + 60 * d' ≤ _; omega⟩, hF.2.2.2.2.2.2.1 _ w1⟩
    ⟨Con_blind, Con_pre hP hF.2.2.2.2.2.2.2.1 (wld_D hF.2.2.2.2.2.2.2.2.2.1) hF.2.2.2.2.2.2.2.2.2.2.1 hS hF.2.2.2.2.2.2.2.2.1⟩ rfl hn hl.1 hst (lv_room hw) hd ⟨hF.2.2.2.2.2.2.2.2.2.2.2.1.2.2.1, hF.2.2.2.2.2.2.2.2.2.2.2.1.2.2.2⟩
theorem J_callSN {idx n d' : Nat} {host : String} {M' : Mx} {As : List Value} {stk : List Value} (hd : decode M.2.1 pc = .ok (.invokestatic idx, 3)) (hM : StatOK M' n) (hl0 : Cond.methodLinkNest M.1.cls idx M'.1 host ∈ Ng)
    (hn : As.length = n) (hst : stk = As.reverse ++ st) (hw : (st.map fun v => v.category).sum ≤ 8) (hdd : d' + 1 ≤ d)
    (con : Con E d' M' As μ (fun v μ' => J E G d M Q (pc + 3) ls (v.toList ++ st) μ')) : J E G d M Q pc ls stk μ := by
  refine J_run (st := st) (d' := d') (M' := M') (vs := As) (a := As.toArray) ?_
  intro H locs lsA hF hP hS hl
  obtain ⟨⟨w1, w2, w4⟩, hdd2, hml⟩ := hM
  have hG : GoodIn Tg (.code M'.1 M'.2.1 M'.2.2.1 M'.2.2.2 :: Tg) := by
    intro w hw
    refine Tg_good w ?_
    rcases List.mem_cons.mp hw with rfl | h
    · exact w4
    · exact h
  exact va_runSN (As := As) (rest := st) (g := F0 (gm G) pc lsA stk) ⟨hF.1, hF.2.1, hF.2.2.1, hF.2.2.2.2.2.1, hF.2.2.2.2.2.2.1⟩ (con H.size) ⟨va_cnB n hF.2.2.2.2.2.2.1 hG rfl rfl rfl (hF.2.2.2.2.2.2.2.2.2.2.1.1 _ hl0) (hF.2.2.2.2.2.2.1 _ w2) hdd2 ⟨Nat.le_trans hdd hF.2.2.2.2.2.2.2.2.2.2.2.1.1, by have := hF.2.2.2.2.2.2.2.2.2.2.2.1.2.1; show 8 + (M'.2.2.1 + 11) + 60 * d' ≤ _; omega⟩, hF.2.2.2.2.2.2.1 _ w1, trivial⟩
    ⟨Con_blind, Con_pre hP hF.2.2.2.2.2.2.2.1 (wld_D hF.2.2.2.2.2.2.2.2.2.1) hF.2.2.2.2.2.2.2.2.2.2.1 hS hF.2.2.2.2.2.2.2.2.1⟩ rfl hn hl.1 hst (lv_room hw) hd ⟨hF.2.2.2.2.2.2.2.2.2.2.2.1.2.2.1, hF.2.2.2.2.2.2.2.2.2.2.2.1.2.2.2⟩
theorem dk {c : ByteArray} {k : List (Nat × Instr × Nat)} (h : ∀ q ∈ k, decode c q.1 = .ok (q.2.1, q.2.2)) (i : Nat) {p : Nat} {ins : Instr} {len : Nat} (hi : k[i]? = some (p, ins, len)) : decode c p = .ok (ins, len) := by
  have h1 := h (p, ins, len) (List.mem_of_getElem? hi)
  exact h1
theorem dkL {c : ByteArray} {k : List (Nat × Instr × Nat)} (h : k.all (fun q => decide (decode c q.1 = .ok (q.2.1, q.2.2))) = true) : ∀ q ∈ k, decode c q.1 = .ok (q.2.1, q.2.2) := fun q hq => of_decide_eq_true (List.all_eq_true.mp h q hq)
theorem J_callVi {k0 ci idx n d' : Nat} {ks : List (Option Nat)} {M' : Mx} {As : List Value} {q : vw_C} {stk : List Value} (hd : decode M.2.1 pc = .ok (.invokevirtual idx, 3)) (hk : dscL[k0]? = some (.inl (ci, ks))) (hc : vwCl[ci]? = some q) (hM : VirtOK M' q.1 n) (hl0 : Cond.methodLink M.1.cls idx M'.1 ∈ Tg)
    (hn : As.length = n) (hst : stk = As.reverse ++ rf E k0 :: st) (hw : (st.map fun v => v.category).sum ≤ 8) (hdd : d' + 1 ≤ d)
    (con : Con E d' M' (rf E k0 :: As) μ (fun v μ' => ∃ r, v = some (.int r) ∧ J E G d M Q (pc + 3) ls (.int r :: st) μ')) : J E G d M Q pc ls stk μ :=
  J_callV hd hk hc hM hl0 hn hst hw hdd (con.mono (fun v μ' h => by obtain ⟨r, rfl, h⟩ := h; exact h))
theorem J_callVl {k0 ci idx n d' : Nat} {ks : List (Option Nat)} {M' : Mx} {As : List Value} {q : vw_C} {stk : List Value} (hd : decode M.2.1 pc = .ok (.invokevirtual idx, 3)) (hk : dscL[k0]? = some (.inl (ci, ks))) (hc : vwCl[ci]? = some q) (hM : VirtOK M' q.1 n) (hl0 : Cond.methodLink M.1.cls idx M'.1 ∈ Tg)
    (hn : As.length = n) (hst : stk = As.reverse ++ rf E k0 :: st) (hw : (st.map fun v => v.category).sum ≤ 8) (hdd : d' + 1 ≤ d)
    (con : Con E d' M' (rf E k0 :: As) μ (fun v μ' => ∃ r, v = some (.long r) ∧ J E G d M Q (pc + 3) ls (.long r :: st) μ')) : J E G d M Q pc ls stk μ :=
  J_callV hd hk hc hM hl0 hn hst hw hdd (con.mono (fun v μ' h => by obtain ⟨r, rfl, h⟩ := h; exact h))
theorem J_callVv {k0 ci idx n d' : Nat} {ks : List (Option Nat)} {M' : Mx} {As : List Value} {q : vw_C} {stk : List Value} (hd : decode M.2.1 pc = .ok (.invokevirtual idx, 3)) (hk : dscL[k0]? = some (.inl (ci, ks))) (hc : vwCl[ci]? = some q) (hM : VirtOK M' q.1 n) (hl0 : Cond.methodLink M.1.cls idx M'.1 ∈ Tg)
    (hn : As.length = n) (hst : stk = As.reverse ++ rf E k0 :: st) (hw : (st.map fun v => v.category).sum ≤ 8) (hdd : d' + 1 ≤ d)
    (con : Con E d' M' (rf E k0 :: As) μ (fun v μ' => v = none ∧ J E G d M Q (pc + 3) ls st μ')) : J E G d M Q pc ls stk μ :=
  J_callV hd hk hc hM hl0 hn hst hw hdd (con.mono (fun v μ' h => by obtain ⟨rfl, h⟩ := h; exact h))
theorem J_callSv {idx n d' : Nat} {M' : Mx} {As : List Value} {stk : List Value} (hd : decode M.2.1 pc = .ok (.invokestatic idx, 3)) (hM : StatOK M' n) (hl0 : Cond.methodLink M.1.cls idx M'.1 ∈ Tg)
    (hn : As.length = n) (hst : stk = As.reverse ++ st) (hw : (st.map fun v => v.category).sum ≤ 8) (hdd : d' + 1 ≤ d)
    (con : Con E d' M' As μ (fun v μ' => v = none ∧ J E G d M Q (pc + 3) ls st μ')) : J E G d M Q pc ls stk μ :=
  J_callS hd hM hl0 hn hst hw hdd (con.mono (fun v μ' h => by obtain ⟨rfl, h⟩ := h; exact h))
theorem J_callSi {idx n d' : Nat} {M' : Mx} {As : List Value} {stk : List Value} (hd : decode M.2.1 pc = .ok (.invokestatic idx, 3)) (hM : StatOK M' n) (hl0 : Cond.methodLink M.1.cls idx M'.1 ∈ Tg)
    (hn : As.length = n) (hst : stk = As.reverse ++ st) (hw : (st.map fun v => v.category).sum ≤ 8) (hdd : d' + 1 ≤ d)
    (con : Con E d' M' As μ (fun v μ' => ∃ r, v = some (.int r) ∧ J E G d M Q (pc + 3) ls (.int r :: st) μ')) : J E G d M Q pc ls stk μ :=
  J_callS hd hM hl0 hn hst hw hdd (con.mono (fun v μ' h => by obtain ⟨r, rfl, h⟩ := h; exact h))
theorem J_callSl {idx n d' : Nat} {M' : Mx} {As : List Value} {stk : List Value} (hd : decode M.2.1 pc = .ok (.invokestatic idx, 3)) (hM : StatOK M' n) (hl0 : Cond.methodLink M.1.cls idx M'.1 ∈ Tg)
    (hn : As.length = n) (hst : stk = As.reverse ++ st) (hw : (st.map fun v => v.category).sum ≤ 8) (hdd : d' + 1 ≤ d)
    (con : Con E d' M' As μ (fun v μ' => ∃ r, v = some (.long r) ∧ J E G d M Q (pc + 3) ls (.long r :: st) μ')) : J E G d M Q pc ls stk μ :=
  J_callS hd hM hl0 hn hst hw hdd (con.mono (fun v μ' h => by obtain ⟨r, rfl, h⟩ := h; exact h))
theorem J_callSNi {idx n d' : Nat} {host : String} {M' : Mx} {As : List Value} {stk : List Value} (hd : decode M.2.1 pc = .ok (.invokestatic idx, 3)) (hM : StatOK M' n) (hl0 : Cond.methodLinkNest M.1.cls idx M'.1 host ∈ Ng)
    (hn : As.length = n) (hst : stk = As.reverse ++ st) (hw : (st.map fun v => v.category).sum ≤ 8) (hdd : d' + 1 ≤ d)
    (con : Con E d' M' As μ (fun v μ' => ∃ r, v = some (.int r) ∧ J E G d M Q (pc + 3) ls (.int r :: st) μ')) : J E G d M Q pc ls stk μ :=
  J_callSN hd hM hl0 hn hst hw hdd (con.mono (fun v μ' h => by obtain ⟨r, rfl, h⟩ := h; exact h))
end JC

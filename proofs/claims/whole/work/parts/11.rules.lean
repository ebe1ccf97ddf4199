section MVB
variable {l : Launch} {G : mv_G} {M : mv_M} {d pc : Nat} {L : List (Option Value)} {st : List Value} {h : mv_H} {Q : mv_O → mv_H → Prop}
theorem q_iconst {n : Int} {v : Int32} (hd : decode M.2.1 pc = .ok (.iconst n, 1)) (hv : Int32.ofInt n = v) (k : mv_rq l G M d (pc + 1) L (.int v :: st) h Q) : mv_rq l G M d pc L (st) h Q :=
  mv_pure (fun p e R s m args below meth c H locs cells slots ls Q0 C hR hl kk => lv_iconst C.1 C.2.1 hd hv (kk ls hl)) k
theorem q_bipush {n : Int} {v : Int32} (hd : decode M.2.1 pc = .ok (.bipush n, 2)) (hv : (Int8.ofInt n).toInt32 = v) (k : mv_rq l G M d (pc + 2) L (.int v :: st) h Q) : mv_rq l G M d pc L (st) h Q :=
  mv_pure (fun p e R s m args below meth c H locs cells slots ls Q0 C hR hl kk => lv_bipush C.1 C.2.1 hd hv (kk ls hl)) k
theorem q_sipush {n : Int} {v : Int32} (hd : decode M.2.1 pc = .ok (.sipush n, 3)) (hv : (Int16.ofInt n).toInt32 = v) (k : mv_rq l G M d (pc + 3) L (.int v :: st) h Q) : mv_rq l G M d pc L (st) h Q :=
  mv_pure (fun p e R s m args below meth c H locs cells slots ls Q0 C hR hl kk => lv_sipush C.1 C.2.1 hd hv (kk ls hl)) k
theorem q_iload_n {k : Fin 4} {x : Int32} (hd : decode M.2.1 pc = .ok (.iload_n k, 1)) (hL : L[(k : Nat)]? = some (some (.int x))) (kk0 : mv_rq l G M d (pc + 1) L (.int x :: st) h Q) : mv_rq l G M d pc L st h Q :=
  mv_pure (fun p e R s m args below meth c H locs cells slots ls Q0 C hR hl kk => lv_iload_n C.1 C.2.1 hd rfl (hl.2.2 _ _ hL) (kk ls hl)) kk0
theorem q_iload {i : Nat} {x : Int32} (hd : decode M.2.1 pc = .ok (.iload i, 2)) (hL : L[i]? = some (some (.int x))) (kk0 : mv_rq l G M d (pc + 2) L (.int x :: st) h Q) : mv_rq l G M d pc L st h Q :=
  mv_pure (fun p e R s m args below meth c H locs cells slots ls Q0 C hR hl kk => lv_iload C.1 C.2.1 hd (hl.2.2 _ _ hL) (kk ls hl)) kk0
theorem q_lload_n {k : Fin 4} {x : Int64} (hd : decode M.2.1 pc = .ok (.lload_n k, 1)) (hL : L[(k : Nat)]? = some (some (.long x))) (kk0 : mv_rq l G M d (pc + 1) L (.long x :: st) h Q) : mv_rq l G M d pc L st h Q :=
  mv_pure (fun p e R s m args below meth c H locs cells slots ls Q0 C hR hl kk => lv_lload_n C.1 C.2.1 hd rfl (hl.2.2 _ _ hL) (kk ls hl)) kk0
theorem q_aload_n {k : Fin 4} {x : Nat} (hd : decode M.2.1 pc = .ok (.aload_n k, 1)) (hL : L[(k : Nat)]? = some (some (.ref x))) (kk0 : mv_rq l G M d (pc + 1) L (.ref x :: st) h Q) : mv_rq l G M d pc L st h Q :=
  mv_pure (fun p e R s m args below meth c H locs cells slots ls Q0 C hR hl kk => lv_aload_n C.1 C.2.1 hd rfl (hl.2.2 _ _ hL) (kk ls hl)) kk0
theorem q_aload {i : Nat} {x : Nat} (hd : decode M.2.1 pc = .ok (.aload i, 2)) (hL : L[i]? = some (some (.ref x))) (kk0 : mv_rq l G M d (pc + 2) L (.ref x :: st) h Q) : mv_rq l G M d pc L st h Q :=
  mv_pure (fun p e R s m args below meth c H locs cells slots ls Q0 C hR hl kk => lv_aload C.1 C.2.1 hd (hl.2.2 _ _ hL) (kk ls hl)) kk0
theorem q_aload_nN {k : Fin 4}  (hd : decode M.2.1 pc = .ok (.aload_n k, 1)) (hL : L[(k : Nat)]? = some (some (.null))) (kk0 : mv_rq l G M d (pc + 1) L (.null :: st) h Q) : mv_rq l G M d pc L st h Q :=
  mv_pure (fun p e R s m args below meth c H locs cells slots ls Q0 C hR hl kk => lv_aload_nN C.1 C.2.1 hd rfl (hl.2.2 _ _ hL) (kk ls hl)) kk0
theorem q_aloadN {i : Nat}  (hd : decode M.2.1 pc = .ok (.aload i, 2)) (hL : L[i]? = some (some (.null))) (kk0 : mv_rq l G M d (pc + 2) L (.null :: st) h Q) : mv_rq l G M d pc L st h Q :=
  mv_pure (fun p e R s m args below meth c H locs cells slots ls Q0 C hR hl kk => lv_aloadN C.1 C.2.1 hd (hl.2.2 _ _ hL) (kk ls hl)) kk0
theorem q_iadd {x y : Int32} (hd : decode M.2.1 pc = .ok (.iadd, 1)) (k : mv_rq l G M d (pc + 1) L (.int (x + y) :: st) h Q) : mv_rq l G M d pc L (.int y :: .int x :: st) h Q :=
  mv_pure (fun p e R s m args below meth c H locs cells slots ls Q0 C hR hl kk => lv_iadd C.1 C.2.1 hd (kk ls hl)) k
theorem q_isub {x y : Int32} (hd : decode M.2.1 pc = .ok (.isub, 1)) (k : mv_rq l G M d (pc + 1) L (.int (x - y) :: st) h Q) : mv_rq l G M d pc L (.int y :: .int x :: st) h Q :=
  mv_pure (fun p e R s m args below meth c H locs cells slots ls Q0 C hR hl kk => lv_isub C.1 C.2.1 hd (kk ls hl)) k
theorem q_imul {x y : Int32} (hd : decode M.2.1 pc = .ok (.imul, 1)) (k : mv_rq l G M d (pc + 1) L (.int (x * y) :: st) h Q) : mv_rq l G M d pc L (.int y :: .int x :: st) h Q :=
  mv_pure (fun p e R s m args below meth c H locs cells slots ls Q0 C hR hl kk => lv_imul C.1 C.2.1 hd (kk ls hl)) k
theorem q_iand {x y : Int32} (hd : decode M.2.1 pc = .ok (.iand, 1)) (k : mv_rq l G M d (pc + 1) L (.int (x &&& y) :: st) h Q) : mv_rq l G M d pc L (.int y :: .int x :: st) h Q :=
  mv_pure (fun p e R s m args below meth c H locs cells slots ls Q0 C hR hl kk => lv_iand C.1 C.2.1 hd (kk ls hl)) k
theorem q_ior {x y : Int32} (hd : decode M.2.1 pc = .ok (.ior, 1)) (k : mv_rq l G M d (pc + 1) L (.int (x ||| y) :: st) h Q) : mv_rq l G M d pc L (.int y :: .int x :: st) h Q :=
  mv_pure (fun p e R s m args below meth c H locs cells slots ls Q0 C hR hl kk => lv_ior C.1 C.2.1 hd (kk ls hl)) k
theorem q_ixor {x y : Int32} (hd : decode M.2.1 pc = .ok (.ixor, 1)) (k : mv_rq l G M d (pc + 1) L (.int (x ^^^ y) :: st) h Q) : mv_rq l G M d pc L (.int y :: .int x :: st) h Q :=
  mv_pure (fun p e R s m args below meth c H locs cells slots ls Q0 C hR hl kk => lv_ixor C.1 C.2.1 hd (kk ls hl)) k
theorem q_ishl {x y : Int32} (hd : decode M.2.1 pc = .ok (.ishl, 1)) (k : mv_rq l G M d (pc + 1) L (.int (x <<< (y &&& 31)) :: st) h Q) : mv_rq l G M d pc L (.int y :: .int x :: st) h Q :=
  mv_pure (fun p e R s m args below meth c H locs cells slots ls Q0 C hR hl kk => lv_ishl C.1 C.2.1 hd (kk ls hl)) k
theorem q_ishr {x y : Int32} (hd : decode M.2.1 pc = .ok (.ishr, 1)) (k : mv_rq l G M d (pc + 1) L (.int (x >>> (y &&& 31)) :: st) h Q) : mv_rq l G M d pc L (.int y :: .int x :: st) h Q :=
  mv_pure (fun p e R s m args below meth c H locs cells slots ls Q0 C hR hl kk => lv_ishr C.1 C.2.1 hd (kk ls hl)) k
theorem q_idiv {x y : Int32} (hd : decode M.2.1 pc = .ok (.idiv, 1)) (hne : ¬ y = 0) (k : mv_rq l G M d (pc + 1) L (.int (x / y) :: st) h Q) : mv_rq l G M d pc L (.int y :: .int x :: st) h Q :=
  mv_pure (fun p e R s m args below meth c H locs cells slots ls Q0 C hR hl kk => lv_idiv C.1 C.2.1 hd hne (kk ls hl)) k
theorem q_irem {x y : Int32} (hd : decode M.2.1 pc = .ok (.irem, 1)) (hne : ¬ y = 0) (k : mv_rq l G M d (pc + 1) L (.int (x - x / y * y) :: st) h Q) : mv_rq l G M d pc L (.int y :: .int x :: st) h Q :=
  mv_pure (fun p e R s m args below meth c H locs cells slots ls Q0 C hR hl kk => lv_irem C.1 C.2.1 hd hne (kk ls hl)) k
theorem q_iushr {x y : Int32} (hd : decode M.2.1 pc = .ok (.iushr, 1)) (k : mv_rq l G M d (pc + 1) L (.int (x.toUInt32 >>> (y.toUInt32 &&& Int32.toUInt32 31)).toInt32 :: st) h Q) : mv_rq l G M d pc L (.int y :: .int x :: st) h Q :=
  mv_pure (fun p e R s m args below meth c H locs cells slots ls Q0 C hR hl kk => lv_iushr C.1 C.2.1 hd rfl (kk ls hl)) k
theorem q_ineg {x : Int32} (hd : decode M.2.1 pc = .ok (.ineg, 1)) (k : mv_rq l G M d (pc + 1) L (.int (-x) :: st) h Q) : mv_rq l G M d pc L (.int x :: st) h Q :=
  mv_pure (fun p e R s m args below meth c H locs cells slots ls Q0 C hR hl kk => lv_ineg C.1 C.2.1 hd (kk ls hl)) k
theorem q_land {x y : Int64} (hd : decode M.2.1 pc = .ok (.land, 1)) (k : mv_rq l G M d (pc + 1) L (.long (x &&& y) :: st) h Q) : mv_rq l G M d pc L (.long y :: .long x :: st) h Q :=
  mv_pure (fun p e R s m args below meth c H locs cells slots ls Q0 C hR hl kk => lv_land C.1 C.2.1 hd (kk ls hl)) k
theorem q_lshr {x : Int64} {y : Int32} (hd : decode M.2.1 pc = .ok (.lshr, 1)) (k : mv_rq l G M d (pc + 1) L (.long (x >>> (y.toInt64 &&& 63)) :: st) h Q) : mv_rq l G M d pc L (.int y :: .long x :: st) h Q :=
  mv_pure (fun p e R s m args below meth c H locs cells slots ls Q0 C hR hl kk => lv_lshr C.1 C.2.1 hd rfl (kk ls hl)) k
theorem q_i2l {x : Int32} (hd : decode M.2.1 pc = .ok (.i2l, 1)) (k : mv_rq l G M d (pc + 1) L (.long x.toInt64 :: st) h Q) : mv_rq l G M d pc L (.int x :: st) h Q :=
  mv_pure (fun p e R s m args below meth c H locs cells slots ls Q0 C hR hl kk => lv_i2l C.1 C.2.1 hd rfl (kk ls hl)) k
theorem q_l2i {x : Int64} (hd : decode M.2.1 pc = .ok (.l2i, 1)) (k : mv_rq l G M d (pc + 1) L (.int x.toInt32 :: st) h Q) : mv_rq l G M d pc L (.long x :: st) h Q :=
  mv_pure (fun p e R s m args below meth c H locs cells slots ls Q0 C hR hl kk => lv_l2i C.1 C.2.1 hd rfl (kk ls hl)) k
theorem q_i2b {x : Int32} (hd : decode M.2.1 pc = .ok (.i2b, 1)) (k : mv_rq l G M d (pc + 1) L (.int x.toInt8.toInt32 :: st) h Q) : mv_rq l G M d pc L (.int x :: st) h Q :=
  mv_pure (fun p e R s m args below meth c H locs cells slots ls Q0 C hR hl kk => lv_i2b C.1 C.2.1 hd rfl (kk ls hl)) k
theorem q_i2c {x : Int32} (hd : decode M.2.1 pc = .ok (.i2c, 1)) (k : mv_rq l G M d (pc + 1) L (.int (x.toUInt32 % 65536).toInt32 :: st) h Q) : mv_rq l G M d pc L (.int x :: st) h Q :=
  mv_pure (fun p e R s m args below meth c H locs cells slots ls Q0 C hR hl kk => lv_i2c C.1 C.2.1 hd rfl (kk ls hl)) k
theorem q_dup {va : Value} (hd : decode M.2.1 pc = .ok (.dup, 1)) (hva : va.category = 1) (k : mv_rq l G M d (pc + 1) L (va :: va :: st) h Q) : mv_rq l G M d pc L (va :: st) h Q :=
  mv_pure (fun p e R s m args below meth c H locs cells slots ls Q0 C hR hl kk => lv_dup C.1 C.2.1 hd hva (kk ls hl)) k
theorem q_pop {va : Value} (hd : decode M.2.1 pc = .ok (.pop, 1)) (hva : va.category = 1) (k : mv_rq l G M d (pc + 1) L (st) h Q) : mv_rq l G M d pc L (va :: st) h Q :=
  mv_pure (fun p e R s m args below meth c H locs cells slots ls Q0 C hR hl kk => lv_pop C.1 C.2.1 hd hva (kk ls hl)) k
theorem q_dup_x1 {va vb : Value} (hd : decode M.2.1 pc = .ok (.dup_x1, 1)) (hva : va.category = 1) (hvb : vb.category = 1) (k : mv_rq l G M d (pc + 1) L (va :: vb :: va :: st) h Q) : mv_rq l G M d pc L (va :: vb :: st) h Q :=
  mv_pure (fun p e R s m args below meth c H locs cells slots ls Q0 C hR hl kk => lv_dup_x1 C.1 C.2.1 hd hva hvb (kk ls hl)) k
theorem q_dup2_11 {va vb : Value} (hd : decode M.2.1 pc = .ok (.dup2, 1)) (hva : va.category = 1) (hvb : vb.category = 1) (k : mv_rq l G M d (pc + 1) L (va :: vb :: va :: vb :: st) h Q) : mv_rq l G M d pc L (va :: vb :: st) h Q :=
  mv_pure (fun p e R s m args below meth c H locs cells slots ls Q0 C hR hl kk => lv_dup2_11 C.1 C.2.1 hd hva hvb (kk ls hl)) k
theorem q_null  (hd : decode M.2.1 pc = .ok (.aconst_null, 1)) (k : mv_rq l G M d (pc + 1) L (.null :: st) h Q) : mv_rq l G M d pc L (st) h Q :=
  mv_pure (fun p e R s m args below meth c H locs cells slots ls Q0 C hR hl kk => lv_null C.1 C.2.1 hd (kk ls hl)) k
theorem q_if_eq {x : Int32} {off : Int} {tgt : Nat} (hd : decode M.2.1 pc = .ok (.ifCond .eq off, 3)) (ht : (pc : Int) + off = (tgt : Int)) (kt : x = 0 → mv_rq l G M d tgt L st h Q) (kf : ¬ x = 0 → mv_rq l G M d (pc + 3) L st h Q) : mv_rq l G M d pc L (.int x :: st) h Q := by
  by_cases hc : x = 0
  · exact mv_pure (fun p e R s m args below meth c H locs cells slots ls Q0 C hR hl kk => lv_if_eq C.1 C.2.1 hd ht (fun _ => kk ls hl) (fun z => absurd hc z)) (kt hc)
  · exact mv_pure (fun p e R s m args below meth c H locs cells slots ls Q0 C hR hl kk => lv_if_eq C.1 C.2.1 hd ht (fun z => absurd z hc) (fun _ => kk ls hl)) (kf hc)
theorem q_if_ne {x : Int32} {off : Int} {tgt : Nat} (hd : decode M.2.1 pc = .ok (.ifCond .ne off, 3)) (ht : (pc : Int) + off = (tgt : Int)) (kt : ¬ x = 0 → mv_rq l G M d tgt L st h Q) (kf : x = 0 → mv_rq l G M d (pc + 3) L st h Q) : mv_rq l G M d pc L (.int x :: st) h Q := by
  by_cases hc : x = 0
  · exact mv_pure (fun p e R s m args below meth c H locs cells slots ls Q0 C hR hl kk => lv_if_ne C.1 C.2.1 hd ht (fun z => absurd hc z) (fun _ => kk ls hl)) (kf hc)
  · exact mv_pure (fun p e R s m args below meth c H locs cells slots ls Q0 C hR hl kk => lv_if_ne C.1 C.2.1 hd ht (fun _ => kk ls hl) (fun z => absurd z hc)) (kt hc)
theorem q_if_lt {x : Int32} {off : Int} {tgt : Nat} (hd : decode M.2.1 pc = .ok (.ifCond .lt off, 3)) (ht : (pc : Int) + off = (tgt : Int)) (kt : x < 0 → mv_rq l G M d tgt L st h Q) (kf : ¬ x < 0 → mv_rq l G M d (pc + 3) L st h Q) : mv_rq l G M d pc L (.int x :: st) h Q := by
  by_cases hc : x < 0
  · exact mv_pure (fun p e R s m args below meth c H locs cells slots ls Q0 C hR hl kk => lv_if_lt C.1 C.2.1 hd ht (fun _ => kk ls hl) (fun z => absurd hc z)) (kt hc)
  · exact mv_pure (fun p e R s m args below meth c H locs cells slots ls Q0 C hR hl kk => lv_if_lt C.1 C.2.1 hd ht (fun z => absurd z hc) (fun _ => kk ls hl)) (kf hc)
theorem q_if_ge {x : Int32} {off : Int} {tgt : Nat} (hd : decode M.2.1 pc = .ok (.ifCond .ge off, 3)) (ht : (pc : Int) + off = (tgt : Int)) (kt : 0 ≤ x → mv_rq l G M d tgt L st h Q) (kf : ¬ 0 ≤ x → mv_rq l G M d (pc + 3) L st h Q) : mv_rq l G M d pc L (.int x :: st) h Q := by
  by_cases hc : 0 ≤ x
  · exact mv_pure (fun p e R s m args below meth c H locs cells slots ls Q0 C hR hl kk => lv_if_ge C.1 C.2.1 hd ht (fun _ => kk ls hl) (fun z => absurd hc z)) (kt hc)
  · exact mv_pure (fun p e R s m args below meth c H locs cells slots ls Q0 C hR hl kk => lv_if_ge C.1 C.2.1 hd ht (fun z => absurd z hc) (fun _ => kk ls hl)) (kf hc)
theorem q_if_gt {x : Int32} {off : Int} {tgt : Nat} (hd : decode M.2.1 pc = .ok (.ifCond .gt off, 3)) (ht : (pc : Int) + off = (tgt : Int)) (kt : 0 < x → mv_rq l G M d tgt L st h Q) (kf : ¬ 0 < x → mv_rq l G M d (pc + 3) L st h Q) : mv_rq l G M d pc L (.int x :: st) h Q := by
  by_cases hc : 0 < x
  · exact mv_pure (fun p e R s m args below meth c H locs cells slots ls Q0 C hR hl kk => lv_if_gt C.1 C.2.1 hd ht (fun _ => kk ls hl) (fun z => absurd hc z)) (kt hc)
  · exact mv_pure (fun p e R s m args below meth c H locs cells slots ls Q0 C hR hl kk => lv_if_gt C.1 C.2.1 hd ht (fun z => absurd z hc) (fun _ => kk ls hl)) (kf hc)
theorem q_if_le {x : Int32} {off : Int} {tgt : Nat} (hd : decode M.2.1 pc = .ok (.ifCond .le off, 3)) (ht : (pc : Int) + off = (tgt : Int)) (kt : x ≤ 0 → mv_rq l G M d tgt L st h Q) (kf : ¬ x ≤ 0 → mv_rq l G M d (pc + 3) L st h Q) : mv_rq l G M d pc L (.int x :: st) h Q := by
  by_cases hc : x ≤ 0
  · exact mv_pure (fun p e R s m args below meth c H locs cells slots ls Q0 C hR hl kk => lv_if_le C.1 C.2.1 hd ht (fun _ => kk ls hl) (fun z => absurd hc z)) (kt hc)
  · exact mv_pure (fun p e R s m args below meth c H locs cells slots ls Q0 C hR hl kk => lv_if_le C.1 C.2.1 hd ht (fun z => absurd z hc) (fun _ => kk ls hl)) (kf hc)
theorem q_icmp_eq {x y : Int32} {off : Int} {tgt : Nat} (hd : decode M.2.1 pc = .ok (.if_icmp .eq off, 3)) (ht : (pc : Int) + off = (tgt : Int)) (kt : x = y → mv_rq l G M d tgt L st h Q) (kf : ¬ x = y → mv_rq l G M d (pc + 3) L st h Q) : mv_rq l G M d pc L (.int y :: .int x :: st) h Q := by
  by_cases hc : x = y
  · exact mv_pure (fun p e R s m args below meth c H locs cells slots ls Q0 C hR hl kk => lv_icmp_eq C.1 C.2.1 hd ht (fun _ => kk ls hl) (fun z => absurd hc z)) (kt hc)
  · exact mv_pure (fun p e R s m args below meth c H locs cells slots ls Q0 C hR hl kk => lv_icmp_eq C.1 C.2.1 hd ht (fun z => absurd z hc) (fun _ => kk ls hl)) (kf hc)
theorem q_icmp_ne {x y : Int32} {off : Int} {tgt : Nat} (hd : decode M.2.1 pc = .ok (.if_icmp .ne off, 3)) (ht : (pc : Int) + off = (tgt : Int)) (kt : ¬ x = y → mv_rq l G M d tgt L st h Q) (kf : x = y → mv_rq l G M d (pc + 3) L st h Q) : mv_rq l G M d pc L (.int y :: .int x :: st) h Q := by
  by_cases hc : x = y
  · exact mv_pure (fun p e R s m args below meth c H locs cells slots ls Q0 C hR hl kk => lv_icmp_ne C.1 C.2.1 hd ht (fun z => absurd hc z) (fun _ => kk ls hl)) (kf hc)
  · exact mv_pure (fun p e R s m args below meth c H locs cells slots ls Q0 C hR hl kk => lv_icmp_ne C.1 C.2.1 hd ht (fun _ => kk ls hl) (fun z => absurd z hc)) (kt hc)
theorem q_icmp_lt {x y : Int32} {off : Int} {tgt : Nat} (hd : decode M.2.1 pc = .ok (.if_icmp .lt off, 3)) (ht : (pc : Int) + off = (tgt : Int)) (kt : x < y → mv_rq l G M d tgt L st h Q) (kf : ¬ x < y → mv_rq l G M d (pc + 3) L st h Q) : mv_rq l G M d pc L (.int y :: .int x :: st) h Q := by
  by_cases hc : x < y
  · exact mv_pure (fun p e R s m args below meth c H locs cells slots ls Q0 C hR hl kk => lv_icmp_lt C.1 C.2.1 hd ht (fun _ => kk ls hl) (fun z => absurd hc z)) (kt hc)
  · exact mv_pure (fun p e R s m args below meth c H locs cells slots ls Q0 C hR hl kk => lv_icmp_lt C.1 C.2.1 hd ht (fun z => absurd z hc) (fun _ => kk ls hl)) (kf hc)
theorem q_icmp_ge {x y : Int32} {off : Int} {tgt : Nat} (hd : decode M.2.1 pc = .ok (.if_icmp .ge off, 3)) (ht : (pc : Int) + off = (tgt : Int)) (kt : y ≤ x → mv_rq l G M d tgt L st h Q) (kf : ¬ y ≤ x → mv_rq l G M d (pc + 3) L st h Q) : mv_rq l G M d pc L (.int y :: .int x :: st) h Q := by
  by_cases hc : y ≤ x
  · exact mv_pure (fun p e R s m args below meth c H locs cells slots ls Q0 C hR hl kk => lv_icmp_ge C.1 C.2.1 hd ht (fun _ => kk ls hl) (fun z => absurd hc z)) (kt hc)
  · exact mv_pure (fun p e R s m args below meth c H locs cells slots ls Q0 C hR hl kk => lv_icmp_ge C.1 C.2.1 hd ht (fun z => absurd z hc) (fun _ => kk ls hl)) (kf hc)
theorem q_icmp_gt {x y : Int32} {off : Int} {tgt : Nat} (hd : decode M.2.1 pc = .ok (.if_icmp .gt off, 3)) (ht : (pc : Int) + off = (tgt : Int)) (kt : y < x → mv_rq l G M d tgt L st h Q) (kf : ¬ y < x → mv_rq l G M d (pc + 3) L st h Q) : mv_rq l G M d pc L (.int y :: .int x :: st) h Q := by
  by_cases hc : y < x
  · exact mv_pure (fun p e R s m args below meth c H locs cells slots ls Q0 C hR hl kk => lv_icmp_gt C.1 C.2.1 hd ht (fun _ => kk ls hl) (fun z => absurd hc z)) (kt hc)
  · exact mv_pure (fun p e R s m args below meth c H locs cells slots ls Q0 C hR hl kk => lv_icmp_gt C.1 C.2.1 hd ht (fun z => absurd z hc) (fun _ => kk ls hl)) (kf hc)
theorem q_icmp_le {x y : Int32} {off : Int} {tgt : Nat} (hd : decode M.2.1 pc = .ok (.if_icmp .le off, 3)) (ht : (pc : Int) + off = (tgt : Int)) (kt : x ≤ y → mv_rq l G M d tgt L st h Q) (kf : ¬ x ≤ y → mv_rq l G M d (pc + 3) L st h Q) : mv_rq l G M d pc L (.int y :: .int x :: st) h Q := by
  by_cases hc : x ≤ y
  · exact mv_pure (fun p e R s m args below meth c H locs cells slots ls Q0 C hR hl kk => lv_icmp_le C.1 C.2.1 hd ht (fun _ => kk ls hl) (fun z => absurd hc z)) (kt hc)
  · exact mv_pure (fun p e R s m args below meth c H locs cells slots ls Q0 C hR hl kk => lv_icmp_le C.1 C.2.1 hd ht (fun z => absurd z hc) (fun _ => kk ls hl)) (kf hc)
theorem q_goto {off : Int} {tgt : Nat} (hd : decode M.2.1 pc = .ok (.goto off, 3)) (ht : (pc : Int) + off = (tgt : Int)) (k : mv_rq l G M d tgt L st h Q) : mv_rq l G M d pc L st h Q :=
  mv_pure (fun p e R s m args below meth c H locs cells slots ls Q0 C hR hl kk => lv_goto C.1 C.2.1 hd ht (kk ls hl)) k
theorem q_ifnonnull {x : Nat} {off : Int} {tgt : Nat} (hd : decode M.2.1 pc = .ok (.ifnonnull off, 3)) (ht : (pc : Int) + off = (tgt : Int)) (k : mv_rq l G M d tgt L st h Q) : mv_rq l G M d pc L (.ref x :: st) h Q :=
  mv_pure (fun p e R s m args below meth c H locs cells slots ls Q0 C hR hl kk => lv_ifnonnull C.1 C.2.1 hd ht (kk ls hl)) k
theorem q_ifnull {x : Nat} {off : Int} (hd : decode M.2.1 pc = .ok (.ifnull off, 3)) (k : mv_rq l G M d (pc + 3) L st h Q) : mv_rq l G M d pc L (.ref x :: st) h Q :=
  mv_pure (fun p e R s m args below meth c H locs cells slots ls Q0 C hR hl kk => lv_ifnull C.1 C.2.1 hd (kk ls hl)) k
theorem q_ifnullN {off : Int} {tgt : Nat} (hd : decode M.2.1 pc = .ok (.ifnull off, 3)) (ht : (pc : Int) + off = (tgt : Int)) (k : mv_rq l G M d tgt L st h Q) : mv_rq l G M d pc L (.null :: st) h Q :=
  mv_pure (fun p e R s m args below meth c H locs cells slots ls Q0 C hR hl kk => lv_ifnullN C.1 C.2.1 hd ht (kk ls hl)) k
theorem q_ifnonnullN {off : Int} (hd : decode M.2.1 pc = .ok (.ifnonnull off, 3)) (k : mv_rq l G M d (pc + 3) L st h Q) : mv_rq l G M d pc L (.null :: st) h Q :=
  mv_pure (fun p e R s m args below meth c H locs cells slots ls Q0 C hR hl kk => lv_ifnonnullN C.1 C.2.1 hd (kk ls hl)) k
/-- a store of a value of one word doesn't cut one of two words ahead of it -/
def mv_sok (L : List (Option Value)) (i : Nat) : Bool := match i with
  | 0 => true
  | j + 1 => match L[j]? with
    | some (some v) => v.category == 1
    | _ => true
def mv_enum (L : List (Option Value)) : List (Nat × Value) := (List.range L.length).filterMap (fun i => (L[i]?.join).map (fun v => (i, v)))
theorem mv_enum_in {L : List (Option Value)} {i : Nat} {v : Value} : (i, v) ∈ mv_enum L ↔ L[i]? = some (some v) := by
  unfold mv_enum
  rw [List.mem_filterMap]
  constructor
  · rintro ⟨j, -, hj⟩
    cases hx : L[j]? with
    | none => simp [hx] at hj
    | some o =>
      cases o with
      | none => simp [hx] at hj
      | some w =>
        simp [hx] at hj
        obtain ⟨rfl, rfl⟩ := hj
        exact hx
  · intro hx
    refine ⟨i, List.mem_range.mpr (List.getElem?_eq_some_iff.mp hx).1, ?_⟩
    simp [hx]
theorem mv_loc.has {L : List (Option Value)} {ls : Array Slot} (hl : mv_loc L ls) : lv_has ls L.length (mv_enum L) :=
  ⟨hl.1, hl.2.1, fun q hq => hl.2.2 q.1 q.2 (mv_enum_in.mp hq)⟩
theorem mv_stored {L : List (Option Value)} {ls' : Array Slot} {i : Nat} {v : Value} (hi : i < L.length) (hok : mv_sok L i = true)
    (hh : lv_has ls' L.length ((i, v) :: (mv_enum L).filter (fun q => !(q.1 == i) && !(q.1 + 1 == i && q.2.category == 2)))) : mv_loc (L.set i (some v)) ls' := by
  obtain ⟨h1, h2, h3⟩ := hh
  refine ⟨by rw [List.length_set]; exact h1, h2, fun j w hj => ?_⟩
  by_cases e : j = i
  · subst e
    rw [List.getElem?_set_self hi] at hj
    have hw : v = w := Option.some.inj (Option.some.inj hj)
    subst hw
    exact h3 (j, v) List.mem_cons_self
  · rw [List.getElem?_set_ne (fun z => e z.symm)] at hj
    refine h3 (j, w) (List.mem_cons_of_mem _ (List.mem_filter.mpr ⟨mv_enum_in.mpr hj, ?_⟩))
    have hc : ¬ (j + 1 = i ∧ w.category = 2) := by
      rintro ⟨z1, z2⟩
      subst z1
      simp only [mv_sok, hj, z2] at hok
      exact absurd hok (by decide)
    have hc' : (j + 1 == i && w.category == 2) = false := by
      cases hb : (j + 1 == i && w.category == 2)
      · rfl
      · rw [Bool.and_eq_true, beq_iff_eq, beq_iff_eq] at hb
        exact absurd hb hc
    simp only [hc', Bool.not_false, Bool.and_true, Bool.not_eq_true', beq_eq_false_iff_ne]
    exact e
theorem q_istore_n {k : Fin 4} {x : Int32} (hd : decode M.2.1 pc = .ok (.istore_n k, 1)) (hi : (k : Nat) < L.length) (hok : mv_sok L (k : Nat) = true) (kk0 : mv_rq l G M d (pc + 1) (L.set (k : Nat) (some (.int x))) st h Q) : mv_rq l G M d pc L (.int x :: st) h Q :=
  mv_pure (fun p e R s m args below meth c H locs cells slots ls Q0 C hR hl kk => lv_istore_n C.1 C.2.1 hd rfl hl.has hi rfl (fun ls1 h1 => kk ls1 (mv_stored hi hok h1))) kk0
theorem q_istore {i : Nat} {x : Int32} (hd : decode M.2.1 pc = .ok (.istore i, 2)) (hi : i < L.length) (hok : mv_sok L i = true) (kk0 : mv_rq l G M d (pc + 2) (L.set i (some (.int x))) st h Q) : mv_rq l G M d pc L (.int x :: st) h Q :=
  mv_pure (fun p e R s m args below meth c H locs cells slots ls Q0 C hR hl kk => lv_istore C.1 C.2.1 hd hl.has hi rfl (fun ls1 h1 => kk ls1 (mv_stored hi hok h1))) kk0
theorem q_astore_n {k : Fin 4} {x : Nat} (hd : decode M.2.1 pc = .ok (.astore_n k, 1)) (hi : (k : Nat) < L.length) (hok : mv_sok L (k : Nat) = true) (kk0 : mv_rq l G M d (pc + 1) (L.set (k : Nat) (some (.ref x))) st h Q) : mv_rq l G M d pc L (.ref x :: st) h Q :=
  mv_pure (fun p e R s m args below meth c H locs cells slots ls Q0 C hR hl kk => lv_astore_n C.1 C.2.1 hd rfl hl.has hi rfl (fun ls1 h1 => kk ls1 (mv_stored hi hok h1))) kk0
theorem q_astore {i : Nat} {x : Nat} (hd : decode M.2.1 pc = .ok (.astore i, 2)) (hi : i < L.length) (hok : mv_sok L i = true) (kk0 : mv_rq l G M d (pc + 2) (L.set i (some (.ref x))) st h Q) : mv_rq l G M d pc L (.ref x :: st) h Q :=
  mv_pure (fun p e R s m args below meth c H locs cells slots ls Q0 C hR hl kk => lv_astore C.1 C.2.1 hd hl.has hi rfl (fun ls1 h1 => kk ls1 (mv_stored hi hok h1))) kk0
theorem q_astore_nN {k : Fin 4}  (hd : decode M.2.1 pc = .ok (.astore_n k, 1)) (hi : (k : Nat) < L.length) (hok : mv_sok L (k : Nat) = true) (kk0 : mv_rq l G M d (pc + 1) (L.set (k : Nat) (some (.null))) st h Q) : mv_rq l G M d pc L (.null :: st) h Q :=
  mv_pure (fun p e R s m args below meth c H locs cells slots ls Q0 C hR hl kk => lv_astore_nN C.1 C.2.1 hd rfl hl.has hi rfl (fun ls1 h1 => kk ls1 (mv_stored hi hok h1))) kk0
theorem q_astoreN {i : Nat}  (hd : decode M.2.1 pc = .ok (.astore i, 2)) (hi : i < L.length) (hok : mv_sok L i = true) (kk0 : mv_rq l G M d (pc + 2) (L.set i (some (.null))) st h Q) : mv_rq l G M d pc L (.null :: st) h Q :=
  mv_pure (fun p e R s m args below meth c H locs cells slots ls Q0 C hR hl kk => lv_astoreN C.1 C.2.1 hd hl.has hi rfl (fun ls1 h1 => kk ls1 (mv_stored hi hok h1))) kk0
theorem q_iinc {i : Nat} {n : Int} {x : Int32} (hd : decode M.2.1 pc = .ok (.iinc i n, 3)) (hL : L[i]? = some (some (.int x))) (hok : mv_sok L i = true) (kk0 : mv_rq l G M d (pc + 3) (L.set i (some (.int (x + Int32.ofInt n)))) st h Q) : mv_rq l G M d pc L st h Q := by
  have hi : i < L.length := (List.getElem?_eq_some_iff.mp hL).1
  obtain ⟨j, hj⟩ := List.getElem?_of_mem (mv_enum_in.mpr hL)
  exact mv_pure (fun p e R s m args below meth c H locs cells slots ls Q0 C hR hl kk => lv_iinc C.1 C.2.1 hd hl.has hj rfl hi rfl (fun ls1 h1 => kk ls1 (mv_stored hi hok h1))) kk0
end MVB

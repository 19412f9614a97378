/-! THE ABSTRACT MACHINE, second half: instructions of locals, stack and numbers -/
theorem G_iadd {d mi pc : Nat} {lv : LV} {st : List Value} {r : Rr} {g : Gi} {j : Gl} {Q : QT} {a b : Int32} (hd : decode (mB mi) pc = .ok (.iadd, 1)) (h : G d mi (pc + 1) lv (.int (a + b) :: st) r g j Q) : G d mi pc lv (.int b :: .int a :: st) r g j Q := by
  intro p l e s m args below meth c D CA B sa sv H locs ls F hS hW hl
  exact lv_iadd F.1 F.2.1 hd (h p l e s m args below meth c D CA B sa sv H locs ls F hS hW hl)
theorem G_isub {d mi pc : Nat} {lv : LV} {st : List Value} {r : Rr} {g : Gi} {j : Gl} {Q : QT} {a b : Int32} (hd : decode (mB mi) pc = .ok (.isub, 1)) (h : G d mi (pc + 1) lv (.int (a - b) :: st) r g j Q) : G d mi pc lv (.int b :: .int a :: st) r g j Q := by
  intro p l e s m args below meth c D CA B sa sv H locs ls F hS hW hl
  exact lv_isub F.1 F.2.1 hd (h p l e s m args below meth c D CA B sa sv H locs ls F hS hW hl)
theorem G_imul {d mi pc : Nat} {lv : LV} {st : List Value} {r : Rr} {g : Gi} {j : Gl} {Q : QT} {a b : Int32} (hd : decode (mB mi) pc = .ok (.imul, 1)) (h : G d mi (pc + 1) lv (.int (a * b) :: st) r g j Q) : G d mi pc lv (.int b :: .int a :: st) r g j Q := by
  intro p l e s m args below meth c D CA B sa sv H locs ls F hS hW hl
  exact lv_imul F.1 F.2.1 hd (h p l e s m args below meth c D CA B sa sv H locs ls F hS hW hl)
theorem G_iand {d mi pc : Nat} {lv : LV} {st : List Value} {r : Rr} {g : Gi} {j : Gl} {Q : QT} {a b : Int32} (hd : decode (mB mi) pc = .ok (.iand, 1)) (h : G d mi (pc + 1) lv (.int (a &&& b) :: st) r g j Q) : G d mi pc lv (.int b :: .int a :: st) r g j Q := by
  intro p l e s m args below meth c D CA B sa sv H locs ls F hS hW hl
  exact lv_iand F.1 F.2.1 hd (h p l e s m args below meth c D CA B sa sv H locs ls F hS hW hl)
theorem G_ior {d mi pc : Nat} {lv : LV} {st : List Value} {r : Rr} {g : Gi} {j : Gl} {Q : QT} {a b : Int32} (hd : decode (mB mi) pc = .ok (.ior, 1)) (h : G d mi (pc + 1) lv (.int (a ||| b) :: st) r g j Q) : G d mi pc lv (.int b :: .int a :: st) r g j Q := by
  intro p l e s m args below meth c D CA B sa sv H locs ls F hS hW hl
  exact lv_ior F.1 F.2.1 hd (h p l e s m args below meth c D CA B sa sv H locs ls F hS hW hl)
theorem G_ixor {d mi pc : Nat} {lv : LV} {st : List Value} {r : Rr} {g : Gi} {j : Gl} {Q : QT} {a b : Int32} (hd : decode (mB mi) pc = .ok (.ixor, 1)) (h : G d mi (pc + 1) lv (.int (a ^^^ b) :: st) r g j Q) : G d mi pc lv (.int b :: .int a :: st) r g j Q := by
  intro p l e s m args below meth c D CA B sa sv H locs ls F hS hW hl
  exact lv_ixor F.1 F.2.1 hd (h p l e s m args below meth c D CA B sa sv H locs ls F hS hW hl)
theorem G_ishl {d mi pc : Nat} {lv : LV} {st : List Value} {r : Rr} {g : Gi} {j : Gl} {Q : QT} {a b : Int32} (hd : decode (mB mi) pc = .ok (.ishl, 1)) (h : G d mi (pc + 1) lv (.int (a <<< (b &&& 31)) :: st) r g j Q) : G d mi pc lv (.int b :: .int a :: st) r g j Q := by
  intro p l e s m args below meth c D CA B sa sv H locs ls F hS hW hl
  exact lv_ishl F.1 F.2.1 hd (h p l e s m args below meth c D CA B sa sv H locs ls F hS hW hl)
theorem G_ishr {d mi pc : Nat} {lv : LV} {st : List Value} {r : Rr} {g : Gi} {j : Gl} {Q : QT} {a b : Int32} (hd : decode (mB mi) pc = .ok (.ishr, 1)) (h : G d mi (pc + 1) lv (.int (a >>> (b &&& 31)) :: st) r g j Q) : G d mi pc lv (.int b :: .int a :: st) r g j Q := by
  intro p l e s m args below meth c D CA B sa sv H locs ls F hS hW hl
  exact lv_ishr F.1 F.2.1 hd (h p l e s m args below meth c D CA B sa sv H locs ls F hS hW hl)
theorem G_ladd {d mi pc : Nat} {lv : LV} {st : List Value} {r : Rr} {g : Gi} {j : Gl} {Q : QT} {a b : Int64} (hd : decode (mB mi) pc = .ok (.ladd, 1)) (h : G d mi (pc + 1) lv (.long (a + b) :: st) r g j Q) : G d mi pc lv (.long b :: .long a :: st) r g j Q := by
  intro p l e s m args below meth c D CA B sa sv H locs ls F hS hW hl
  exact lv_ladd F.1 F.2.1 hd (h p l e s m args below meth c D CA B sa sv H locs ls F hS hW hl)
theorem G_lsub {d mi pc : Nat} {lv : LV} {st : List Value} {r : Rr} {g : Gi} {j : Gl} {Q : QT} {a b : Int64} (hd : decode (mB mi) pc = .ok (.lsub, 1)) (h : G d mi (pc + 1) lv (.long (a - b) :: st) r g j Q) : G d mi pc lv (.long b :: .long a :: st) r g j Q := by
  intro p l e s m args below meth c D CA B sa sv H locs ls F hS hW hl
  exact lv_lsub F.1 F.2.1 hd (h p l e s m args below meth c D CA B sa sv H locs ls F hS hW hl)
theorem G_lmul {d mi pc : Nat} {lv : LV} {st : List Value} {r : Rr} {g : Gi} {j : Gl} {Q : QT} {a b : Int64} (hd : decode (mB mi) pc = .ok (.lmul, 1)) (h : G d mi (pc + 1) lv (.long (a * b) :: st) r g j Q) : G d mi pc lv (.long b :: .long a :: st) r g j Q := by
  intro p l e s m args below meth c D CA B sa sv H locs ls F hS hW hl
  exact lv_lmul F.1 F.2.1 hd (h p l e s m args below meth c D CA B sa sv H locs ls F hS hW hl)
theorem G_land {d mi pc : Nat} {lv : LV} {st : List Value} {r : Rr} {g : Gi} {j : Gl} {Q : QT} {a b : Int64} (hd : decode (mB mi) pc = .ok (.land, 1)) (h : G d mi (pc + 1) lv (.long (a &&& b) :: st) r g j Q) : G d mi pc lv (.long b :: .long a :: st) r g j Q := by
  intro p l e s m args below meth c D CA B sa sv H locs ls F hS hW hl
  exact lv_land F.1 F.2.1 hd (h p l e s m args below meth c D CA B sa sv H locs ls F hS hW hl)
theorem G_lor {d mi pc : Nat} {lv : LV} {st : List Value} {r : Rr} {g : Gi} {j : Gl} {Q : QT} {a b : Int64} (hd : decode (mB mi) pc = .ok (.lor, 1)) (h : G d mi (pc + 1) lv (.long (a ||| b) :: st) r g j Q) : G d mi pc lv (.long b :: .long a :: st) r g j Q := by
  intro p l e s m args below meth c D CA B sa sv H locs ls F hS hW hl
  exact lv_lor F.1 F.2.1 hd (h p l e s m args below meth c D CA B sa sv H locs ls F hS hW hl)
theorem G_lxor {d mi pc : Nat} {lv : LV} {st : List Value} {r : Rr} {g : Gi} {j : Gl} {Q : QT} {a b : Int64} (hd : decode (mB mi) pc = .ok (.lxor, 1)) (h : G d mi (pc + 1) lv (.long (a ^^^ b) :: st) r g j Q) : G d mi pc lv (.long b :: .long a :: st) r g j Q := by
  intro p l e s m args below meth c D CA B sa sv H locs ls F hS hW hl
  exact lv_lxor F.1 F.2.1 hd (h p l e s m args below meth c D CA B sa sv H locs ls F hS hW hl)
theorem G_ineg {d mi pc : Nat} {lv : LV} {st : List Value} {r : Rr} {g : Gi} {j : Gl} {Q : QT} {a : Int32} (hd : decode (mB mi) pc = .ok (.ineg, 1)) (h : G d mi (pc + 1) lv (.int (-a) :: st) r g j Q) : G d mi pc lv (.int a :: st) r g j Q := by
  intro p l e s m args below meth c D CA B sa sv H locs ls F hS hW hl
  exact lv_ineg F.1 F.2.1 hd (h p l e s m args below meth c D CA B sa sv H locs ls F hS hW hl)
theorem G_lshl {d mi pc : Nat} {lv : LV} {st : List Value} {r : Rr} {g : Gi} {j : Gl} {Q : QT} {a : Int64} {b : Int32} (hd : decode (mB mi) pc = .ok (.lshl, 1)) (h : G d mi (pc + 1) lv (.long (a <<< (b.toInt64 &&& 63)) :: st) r g j Q) : G d mi pc lv (.int b :: .long a :: st) r g j Q := by
  intro p l e s m args below meth c D CA B sa sv H locs ls F hS hW hl
  exact lv_lshl F.1 F.2.1 hd rfl (h p l e s m args below meth c D CA B sa sv H locs ls F hS hW hl)
theorem G_lshr {d mi pc : Nat} {lv : LV} {st : List Value} {r : Rr} {g : Gi} {j : Gl} {Q : QT} {a : Int64} {b : Int32} (hd : decode (mB mi) pc = .ok (.lshr, 1)) (h : G d mi (pc + 1) lv (.long (a >>> (b.toInt64 &&& 63)) :: st) r g j Q) : G d mi pc lv (.int b :: .long a :: st) r g j Q := by
  intro p l e s m args below meth c D CA B sa sv H locs ls F hS hW hl
  exact lv_lshr F.1 F.2.1 hd rfl (h p l e s m args below meth c D CA B sa sv H locs ls F hS hW hl)
theorem G_lcmp {d mi pc : Nat} {lv : LV} {st : List Value} {r : Rr} {g : Gi} {j : Gl} {Q : QT} {a b : Int64} (hd : decode (mB mi) pc = .ok (.lcmp, 1)) (h : G d mi (pc + 1) lv (.int (lg_cmp a b) :: st) r g j Q) : G d mi pc lv (.long b :: .long a :: st) r g j Q := by
  intro p l e s m args below meth c D CA B sa sv H locs ls F hS hW hl
  exact W.lcmp F.1 F.2.1 hd (h p l e s m args below meth c D CA B sa sv H locs ls F hS hW hl)
theorem G_i2l {d mi pc : Nat} {lv : LV} {st : List Value} {r : Rr} {g : Gi} {j : Gl} {Q : QT} {a : Int32} (hd : decode (mB mi) pc = .ok (.i2l, 1)) (h : G d mi (pc + 1) lv (.long a.toInt64 :: st) r g j Q) : G d mi pc lv (.int a :: st) r g j Q := by
  intro p l e s m args below meth c D CA B sa sv H locs ls F hS hW hl
  exact lv_i2l F.1 F.2.1 hd rfl (h p l e s m args below meth c D CA B sa sv H locs ls F hS hW hl)
theorem G_l2i {d mi pc : Nat} {lv : LV} {st : List Value} {r : Rr} {g : Gi} {j : Gl} {Q : QT} {a : Int64} (hd : decode (mB mi) pc = .ok (.l2i, 1)) (h : G d mi (pc + 1) lv (.int a.toInt32 :: st) r g j Q) : G d mi pc lv (.long a :: st) r g j Q := by
  intro p l e s m args below meth c D CA B sa sv H locs ls F hS hW hl
  exact lv_l2i F.1 F.2.1 hd rfl (h p l e s m args below meth c D CA B sa sv H locs ls F hS hW hl)
theorem G_i2b {d mi pc : Nat} {lv : LV} {st : List Value} {r : Rr} {g : Gi} {j : Gl} {Q : QT} {a : Int32} (hd : decode (mB mi) pc = .ok (.i2b, 1)) (h : G d mi (pc + 1) lv (.int a.toInt8.toInt32 :: st) r g j Q) : G d mi pc lv (.int a :: st) r g j Q := by
  intro p l e s m args below meth c D CA B sa sv H locs ls F hS hW hl
  exact lv_i2b F.1 F.2.1 hd rfl (h p l e s m args below meth c D CA B sa sv H locs ls F hS hW hl)
theorem G_i2c {d mi pc : Nat} {lv : LV} {st : List Value} {r : Rr} {g : Gi} {j : Gl} {Q : QT} {a : Int32} (hd : decode (mB mi) pc = .ok (.i2c, 1)) (h : G d mi (pc + 1) lv (.int (a.toUInt32 % 65536).toInt32 :: st) r g j Q) : G d mi pc lv (.int a :: st) r g j Q := by
  intro p l e s m args below meth c D CA B sa sv H locs ls F hS hW hl
  exact lv_i2c F.1 F.2.1 hd rfl (h p l e s m args below meth c D CA B sa sv H locs ls F hS hW hl)
theorem G_idiv {d mi pc : Nat} {lv : LV} {st : List Value} {r : Rr} {g : Gi} {j : Gl} {Q : QT} {a b : Int32} (hd : decode (mB mi) pc = .ok (.idiv, 1)) (hne : ¬ b = 0) (h : G d mi (pc + 1) lv (.int (a / b) :: st) r g j Q) : G d mi pc lv (.int b :: .int a :: st) r g j Q := by
  intro p l e s m args below meth c D CA B sa sv H locs ls F hS hW hl
  exact lv_idiv F.1 F.2.1 hd hne (h p l e s m args below meth c D CA B sa sv H locs ls F hS hW hl)
theorem G_irem {d mi pc : Nat} {lv : LV} {st : List Value} {r : Rr} {g : Gi} {j : Gl} {Q : QT} {a b : Int32} (hd : decode (mB mi) pc = .ok (.irem, 1)) (hne : ¬ b = 0) (h : G d mi (pc + 1) lv (.int (a - a / b * b) :: st) r g j Q) : G d mi pc lv (.int b :: .int a :: st) r g j Q := by
  intro p l e s m args below meth c D CA B sa sv H locs ls F hS hW hl
  exact lv_irem F.1 F.2.1 hd hne (h p l e s m args below meth c D CA B sa sv H locs ls F hS hW hl)
theorem G_ldiv {d mi pc : Nat} {lv : LV} {st : List Value} {r : Rr} {g : Gi} {j : Gl} {Q : QT} {a b : Int64} (hd : decode (mB mi) pc = .ok (.ldiv, 1)) (hne : ¬ b = 0) (h : G d mi (pc + 1) lv (.long (a / b) :: st) r g j Q) : G d mi pc lv (.long b :: .long a :: st) r g j Q := by
  intro p l e s m args below meth c D CA B sa sv H locs ls F hS hW hl
  exact lv_ldiv F.1 F.2.1 hd hne (h p l e s m args below meth c D CA B sa sv H locs ls F hS hW hl)
theorem G_lrem {d mi pc : Nat} {lv : LV} {st : List Value} {r : Rr} {g : Gi} {j : Gl} {Q : QT} {a b : Int64} (hd : decode (mB mi) pc = .ok (.lrem, 1)) (hne : ¬ b = 0) (h : G d mi (pc + 1) lv (.long (a - a / b * b) :: st) r g j Q) : G d mi pc lv (.long b :: .long a :: st) r g j Q := by
  intro p l e s m args below meth c D CA B sa sv H locs ls F hS hW hl
  exact lv_lrem F.1 F.2.1 hd hne (h p l e s m args below meth c D CA B sa sv H locs ls F hS hW hl)
theorem G_iconst {d mi pc : Nat} {lv : LV} {st : List Value} {r : Rr} {g : Gi} {j : Gl} {Q : QT} {n : Int} (hd : decode (mB mi) pc = .ok (.iconst n, 1)) (hv : Int32.ofInt n = c32 n) (h : G d mi (pc + 1) lv (.int (c32 n) :: st) r g j Q) : G d mi pc lv st r g j Q := by
  intro p l e s m args below meth c D CA B sa sv H locs ls F hS hW hl
  exact lv_iconst F.1 F.2.1 hd hv (h p l e s m args below meth c D CA B sa sv H locs ls F hS hW hl)
theorem G_bipush {d mi pc : Nat} {lv : LV} {st : List Value} {r : Rr} {g : Gi} {j : Gl} {Q : QT} {n : Int} (hd : decode (mB mi) pc = .ok (.bipush n, 2)) (hv : (Int8.ofInt n).toInt32 = c32 n) (h : G d mi (pc + 2) lv (.int (c32 n) :: st) r g j Q) : G d mi pc lv st r g j Q := by
  intro p l e s m args below meth c D CA B sa sv H locs ls F hS hW hl
  exact lv_bipush F.1 F.2.1 hd hv (h p l e s m args below meth c D CA B sa sv H locs ls F hS hW hl)
theorem G_sipush {d mi pc : Nat} {lv : LV} {st : List Value} {r : Rr} {g : Gi} {j : Gl} {Q : QT} {n : Int} (hd : decode (mB mi) pc = .ok (.sipush n, 3)) (hv : (Int16.ofInt n).toInt32 = c32 n) (h : G d mi (pc + 3) lv (.int (c32 n) :: st) r g j Q) : G d mi pc lv st r g j Q := by
  intro p l e s m args below meth c D CA B sa sv H locs ls F hS hW hl
  exact lv_sipush F.1 F.2.1 hd hv (h p l e s m args below meth c D CA B sa sv H locs ls F hS hW hl)
theorem G_lconst {d mi pc : Nat} {lv : LV} {st : List Value} {r : Rr} {g : Gi} {j : Gl} {Q : QT} {n : Fin 2} (hd : decode (mB mi) pc = .ok (.lconst n, 1)) (h : G d mi (pc + 1) lv (.long (lN n) :: st) r g j Q) : G d mi pc lv st r g j Q := by
  intro p l e s m args below meth c D CA B sa sv H locs ls F hS hW hl
  exact lv_lconst F.1 F.2.1 hd rfl (h p l e s m args below meth c D CA B sa sv H locs ls F hS hW hl)
theorem G_iload_n {d mi pc : Nat} {lv : LV} {st : List Value} {r : Rr} {g : Gi} {j : Gl} {Q : QT} {k : Fin 4} {x : Int32} (hd : decode (mB mi) pc = .ok (.iload_n k, 1)) (hk : rLk lv k = some (.int x)) (h : G d mi (pc + 1) lv (.int x :: st) r g j Q) : G d mi pc lv st r g j Q := by
  intro p l e s m args below meth c D CA B sa sv H locs ls F hS hW hl
  exact lv_iload_n F.1 F.2.1 hd rfl (trl_at hl hk) (h p l e s m args below meth c D CA B sa sv H locs ls F hS hW hl)
theorem G_iload {d mi pc : Nat} {lv : LV} {st : List Value} {r : Rr} {g : Gi} {j : Gl} {Q : QT} {k : Nat} {x : Int32} (hd : decode (mB mi) pc = .ok (.iload k, 2)) (hk : rLk lv k = some (.int x)) (h : G d mi (pc + 2) lv (.int x :: st) r g j Q) : G d mi pc lv st r g j Q := by
  intro p l e s m args below meth c D CA B sa sv H locs ls F hS hW hl
  exact lv_iload F.1 F.2.1 hd (trl_at hl hk) (h p l e s m args below meth c D CA B sa sv H locs ls F hS hW hl)
theorem G_lload_n {d mi pc : Nat} {lv : LV} {st : List Value} {r : Rr} {g : Gi} {j : Gl} {Q : QT} {k : Fin 4} {x : Int64} (hd : decode (mB mi) pc = .ok (.lload_n k, 1)) (hk : rLk lv k = some (.long x)) (h : G d mi (pc + 1) lv (.long x :: st) r g j Q) : G d mi pc lv st r g j Q := by
  intro p l e s m args below meth c D CA B sa sv H locs ls F hS hW hl
  exact lv_lload_n F.1 F.2.1 hd rfl (trl_at hl hk) (h p l e s m args below meth c D CA B sa sv H locs ls F hS hW hl)
theorem G_lload {d mi pc : Nat} {lv : LV} {st : List Value} {r : Rr} {g : Gi} {j : Gl} {Q : QT} {k : Nat} {x : Int64} (hd : decode (mB mi) pc = .ok (.lload k, 2)) (hk : rLk lv k = some (.long x)) (h : G d mi (pc + 2) lv (.long x :: st) r g j Q) : G d mi pc lv st r g j Q := by
  intro p l e s m args below meth c D CA B sa sv H locs ls F hS hW hl
  exact lv_lload F.1 F.2.1 hd (trl_at hl hk) (h p l e s m args below meth c D CA B sa sv H locs ls F hS hW hl)
theorem G_aload_n {d mi pc : Nat} {lv : LV} {st : List Value} {r : Rr} {g : Gi} {j : Gl} {Q : QT} {k : Fin 4} {x : Nat} (hd : decode (mB mi) pc = .ok (.aload_n k, 1)) (hk : rLk lv k = some (.ref x)) (h : G d mi (pc + 1) lv (.ref x :: st) r g j Q) : G d mi pc lv st r g j Q := by
  intro p l e s m args below meth c D CA B sa sv H locs ls F hS hW hl
  exact lv_aload_n F.1 F.2.1 hd rfl (trl_at hl hk) (h p l e s m args below meth c D CA B sa sv H locs ls F hS hW hl)
theorem G_aload_nS {d mi pc : Nat} {lv : LV} {st : List Value} {r : Rr} {g : Gi} {j : Gl} {Q : QT} {k : Fin 4} {x : UInt32} (hd : decode (mB mi) pc = .ok (.aload_n k, 1)) (hk : rLk lv k = some (.float x)) (h : G d mi (pc + 1) lv (.float x :: st) r g j Q) : G d mi pc lv st r g j Q := by
  intro p l e s m args below meth c D CA B sa sv H locs ls F hS hW hl
  exact lv_aload_n F.1 F.2.1 hd rfl (trl_at hl hk) (h p l e s m args below meth c D CA B sa sv H locs ls F hS hW hl)
theorem G_aload {d mi pc : Nat} {lv : LV} {st : List Value} {r : Rr} {g : Gi} {j : Gl} {Q : QT} {k : Nat} {x : Nat} (hd : decode (mB mi) pc = .ok (.aload k, 2)) (hk : rLk lv k = some (.ref x)) (h : G d mi (pc + 2) lv (.ref x :: st) r g j Q) : G d mi pc lv st r g j Q := by
  intro p l e s m args below meth c D CA B sa sv H locs ls F hS hW hl
  exact lv_aload F.1 F.2.1 hd (trl_at hl hk) (h p l e s m args below meth c D CA B sa sv H locs ls F hS hW hl)
theorem G_aloadS {d mi pc : Nat} {lv : LV} {st : List Value} {r : Rr} {g : Gi} {j : Gl} {Q : QT} {k : Nat} {x : UInt32} (hd : decode (mB mi) pc = .ok (.aload k, 2)) (hk : rLk lv k = some (.float x)) (h : G d mi (pc + 2) lv (.float x :: st) r g j Q) : G d mi pc lv st r g j Q := by
  intro p l e s m args below meth c D CA B sa sv H locs ls F hS hW hl
  exact lv_aload F.1 F.2.1 hd (trl_at hl hk) (h p l e s m args below meth c D CA B sa sv H locs ls F hS hW hl)
theorem G_istore_n {d mi pc : Nat} {lv : LV} {st : List Value} {r : Rr} {g : Gi} {j : Gl} {Q : QT} {k : Fin 4} {x : Int32} (hd : decode (mB mi) pc = .ok (.istore_n k, 1)) (hk : (k : Nat) < mL mi) (h : G d mi (pc + 1) (st1 lv k (.int x)) st r g j Q) : G d mi pc lv (.int x :: st) r g j Q := by
  intro p l e s m args below meth c D CA B sa sv H locs ls F hS hW hl
  exact lv_istore_n F.1 F.2.1 hd rfl hl hk (trl_st1 lv k (.int x)) (fun ls hl => h p l e s m args below meth c D CA B sa sv H locs ls F hS hW hl)
theorem G_istore {d mi pc : Nat} {lv : LV} {st : List Value} {r : Rr} {g : Gi} {j : Gl} {Q : QT} {k : Nat} {x : Int32} (hd : decode (mB mi) pc = .ok (.istore k, 2)) (hk : (k : Nat) < mL mi) (h : G d mi (pc + 2) (st1 lv k (.int x)) st r g j Q) : G d mi pc lv (.int x :: st) r g j Q := by
  intro p l e s m args below meth c D CA B sa sv H locs ls F hS hW hl
  exact lv_istore F.1 F.2.1 hd hl hk (trl_st1 lv k (.int x)) (fun ls hl => h p l e s m args below meth c D CA B sa sv H locs ls F hS hW hl)
theorem G_lstore_n {d mi pc : Nat} {lv : LV} {st : List Value} {r : Rr} {g : Gi} {j : Gl} {Q : QT} {k : Fin 4} {x : Int64} (hd : decode (mB mi) pc = .ok (.lstore_n k, 1)) (hk : k + 1 < mL mi) (h : G d mi (pc + 1) (st2 lv k (.long x)) st r g j Q) : G d mi pc lv (.long x :: st) r g j Q := by
  intro p l e s m args below meth c D CA B sa sv H locs ls F hS hW hl
  exact lv_lstore_n F.1 F.2.1 hd rfl hl hk (trl_st2 lv k (.long x)) (fun ls hl => h p l e s m args below meth c D CA B sa sv H locs ls F hS hW hl)
theorem G_lstore {d mi pc : Nat} {lv : LV} {st : List Value} {r : Rr} {g : Gi} {j : Gl} {Q : QT} {k : Nat} {x : Int64} (hd : decode (mB mi) pc = .ok (.lstore k, 2)) (hk : k + 1 < mL mi) (h : G d mi (pc + 2) (st2 lv k (.long x)) st r g j Q) : G d mi pc lv (.long x :: st) r g j Q := by
  intro p l e s m args below meth c D CA B sa sv H locs ls F hS hW hl
  exact lv_lstore F.1 F.2.1 hd hl hk (trl_st2 lv k (.long x)) (fun ls hl => h p l e s m args below meth c D CA B sa sv H locs ls F hS hW hl)
theorem G_astore_n {d mi pc : Nat} {lv : LV} {st : List Value} {r : Rr} {g : Gi} {j : Gl} {Q : QT} {k : Fin 4} {x : Nat} (hd : decode (mB mi) pc = .ok (.astore_n k, 1)) (hk : (k : Nat) < mL mi) (h : G d mi (pc + 1) (st1 lv k (.ref x)) st r g j Q) : G d mi pc lv (.ref x :: st) r g j Q := by
  intro p l e s m args below meth c D CA B sa sv H locs ls F hS hW hl
  exact lv_astore_n F.1 F.2.1 hd rfl hl hk (trl_st1 lv k (.ref x)) (fun ls hl => h p l e s m args below meth c D CA B sa sv H locs ls F hS hW hl)
theorem G_astore {d mi pc : Nat} {lv : LV} {st : List Value} {r : Rr} {g : Gi} {j : Gl} {Q : QT} {k : Nat} {x : Nat} (hd : decode (mB mi) pc = .ok (.astore k, 2)) (hk : (k : Nat) < mL mi) (h : G d mi (pc + 2) (st1 lv k (.ref x)) st r g j Q) : G d mi pc lv (.ref x :: st) r g j Q := by
  intro p l e s m args below meth c D CA B sa sv H locs ls F hS hW hl
  exact lv_astore F.1 F.2.1 hd hl hk (trl_st1 lv k (.ref x)) (fun ls hl => h p l e s m args below meth c D CA B sa sv H locs ls F hS hW hl)
theorem G_iinc {d mi pc : Nat} {lv : LV} {st : List Value} {r : Rr} {g : Gi} {j : Gl} {Q : QT} {k : Nat} {n : Int} {x : Int32} (hd : decode (mB mi) pc = .ok (.iinc k n, 3)) (hk : rLk lv k = some (.int x)) (hv : Int32.ofInt n = c32 n) (hn : k < mL mi) (h : G d mi (pc + 3) (st1 lv k (.int (x + c32 n))) st r g j Q) : G d mi pc lv st r g j Q := by
  intro p l e s m args below meth c D CA B sa sv H locs ls F hS hW hl
  obtain ⟨i, hi⟩ := List.getElem?_of_mem (show (k, Value.int x) ∈ trl B sa lv from List.mem_map.mpr ⟨_, rLk_mem hk, rfl⟩)
  exact lv_iinc F.1 F.2.1 hd hl hi (by rw [hv]) hn (trl_st1 lv k (.int (x + c32 n))) (fun ls hl => h p l e s m args below meth c D CA B sa sv H locs ls F hS hW hl)
theorem G_dup {d mi pc : Nat} {lv : LV} {st : List Value} {r : Rr} {g : Gi} {j : Gl} {Q : QT} {v : Value} (hd : decode (mB mi) pc = .ok (.dup, 1)) (hv : v.category = 1) (h : G d mi (pc + 1) lv (v :: v :: st) r g j Q) : G d mi pc lv (v :: st) r g j Q := by
  intro p l e s m args below meth c D CA B sa sv H locs ls F hS hW hl
  exact lv_dup F.1 F.2.1 hd (by rw [tr_cat]; exact hv) (h p l e s m args below meth c D CA B sa sv H locs ls F hS hW hl)
theorem G_pop {d mi pc : Nat} {lv : LV} {st : List Value} {r : Rr} {g : Gi} {j : Gl} {Q : QT} {v : Value} (hd : decode (mB mi) pc = .ok (.pop, 1)) (hv : v.category = 1) (h : G d mi (pc + 1) lv st r g j Q) : G d mi pc lv (v :: st) r g j Q := by
  intro p l e s m args below meth c D CA B sa sv H locs ls F hS hW hl
  exact lv_pop F.1 F.2.1 hd (by rw [tr_cat]; exact hv) (h p l e s m args below meth c D CA B sa sv H locs ls F hS hW hl)
theorem G_dup2 {d mi pc : Nat} {lv : LV} {st : List Value} {r : Rr} {g : Gi} {j : Gl} {Q : QT} {u v : Value} (hd : decode (mB mi) pc = .ok (.dup2, 1)) (hu : u.category = 1) (hv : v.category = 1) (h : G d mi (pc + 1) lv (u :: v :: u :: v :: st) r g j Q) : G d mi pc lv (u :: v :: st) r g j Q := by
  intro p l e s m args below meth c D CA B sa sv H locs ls F hS hW hl
  exact lv_dup2_11 F.1 F.2.1 hd (by rw [tr_cat]; exact hu) (by rw [tr_cat]; exact hv) (h p l e s m args below meth c D CA B sa sv H locs ls F hS hW hl)
theorem G_dup2l {d mi pc : Nat} {lv : LV} {st : List Value} {r : Rr} {g : Gi} {j : Gl} {Q : QT} {v : Value} (hd : decode (mB mi) pc = .ok (.dup2, 1)) (hv : v.category = 2) (h : G d mi (pc + 1) lv (v :: v :: st) r g j Q) : G d mi pc lv (v :: st) r g j Q := by
  intro p l e s m args below meth c D CA B sa sv H locs ls F hS hW hl
  exact lv_dup2_2 F.1 F.2.1 hd (by rw [tr_cat]; exact hv) (h p l e s m args below meth c D CA B sa sv H locs ls F hS hW hl)
def ciOk (oc : Nat) (e : Nat × Int × Nat) : Bool := wordOf e.2.2 (.constant (Rn oc) e.1 (c32 e.2.1))
def clOk (oc : Nat) (e : Nat × Int × Nat) : Bool := wordOf e.2.2 (.constantLong (Rn oc) e.1 (c64 e.2.1))
set_option maxRecDepth 100000 in
theorem ciT_ok0 : (List.range 12).all (fun oc => ((ciTL[oc]?).getD []).all (ciOk oc)) = true := by decide +kernel
set_option maxRecDepth 100000 in
theorem clT_ok0 : (List.range 12).all (fun oc => ((clTL[oc]?).getD []).all (clOk oc)) = true := by decide +kernel
theorem wordOf_in {i : Nat} {w : Cond} (h : wordOf i w = true) : w ∈ GT := by
  simp only [wordOf, Bool.and_eq_true, decide_eq_true_eq] at h
  exact List.mem_filter.mpr ⟨wordAt_in h.1, h.2⟩
theorem in_TS {mi i : Nat} {w : Cond} (h : wordOf i w = true) : w ∈ TS mi := List.mem_cons_of_mem _ (wordOf_in h)
theorem lk2_mem {α : Type} {l : List (Nat × α)} {i : Nat} {v : α} (h : lk2 l i = some v) : (i, v) ∈ l := by
  induction l with
  | nil => simp [lk2] at h
  | cons q t ih =>
    unfold lk2 at h
    cases hb : Nat.beq q.1 i with
    | true =>
      rw [hb] at h
      simp only [cond_true, Option.some.injEq] at h
      have := Nat.eq_of_beq_eq_true hb
      subst this
      subst h
      exact List.mem_cons_self
    | false =>
      rw [hb] at h
      exact List.mem_cons_of_mem _ (ih h)
theorem out_range {α : Type} {l : List (List α)} {oc : Nat} (h : l.length ≤ oc) : (l[oc]?).getD [] = [] := by
  rw [List.getElem?_eq_none h]; rfl
theorem ciT_ok {oc ix : Nat} {q : Int × Nat} (h : lk2 ((ciTL[oc]?).getD []) ix = some q) : ciOk oc (ix, q) = true := by
  by_cases ho : oc < 12
  · exact List.all_eq_true.mp (List.all_eq_true.mp ciT_ok0 oc (List.mem_range.mpr ho)) _ (lk2_mem h)
  · rw [out_range (show ciTL.length ≤ oc from Nat.not_lt.mp ho)] at h; simp [lk2] at h
theorem clT_ok {oc ix : Nat} {q : Int × Nat} (h : lk2 ((clTL[oc]?).getD []) ix = some q) : clOk oc (ix, q) = true := by
  by_cases ho : oc < 12
  · exact List.all_eq_true.mp (List.all_eq_true.mp clT_ok0 oc (List.mem_range.mpr ho)) _ (lk2_mem h)
  · rw [out_range (show clTL.length ≤ oc from Nat.not_lt.mp ho)] at h; simp [lk2] at h
theorem G_ldc {d mi pc : Nat} {lv : LV} {st : List Value} {r : Rr} {g : Gi} {j : Gl} {Q : QT} {ix : Nat} {q : Int × Nat} (hd : decode (mB mi) pc = .ok (.ldc ix, 2)) (hq : lk2 ((ciTL[mO mi]?).getD []) ix = some q) (h : G d mi (pc + 2) lv (.int (c32 q.1) :: st) r g j Q) : G d mi pc lv st r g j Q := by
  intro p l e s m args below meth c D CA B sa sv H locs ls F hS hW hl
  exact lv_ldc F.1 F.2.1 F.2.2.2.2.1 (F.2.2.2.2.2.1 _ (in_TS (ciT_ok hq))) hd (h p l e s m args below meth c D CA B sa sv H locs ls F hS hW hl)
theorem G_ldc_w {d mi pc : Nat} {lv : LV} {st : List Value} {r : Rr} {g : Gi} {j : Gl} {Q : QT} {ix : Nat} {q : Int × Nat} (hd : decode (mB mi) pc = .ok (.ldc_w ix, 3)) (hq : lk2 ((ciTL[mO mi]?).getD []) ix = some q) (h : G d mi (pc + 3) lv (.int (c32 q.1) :: st) r g j Q) : G d mi pc lv st r g j Q := by
  intro p l e s m args below meth c D CA B sa sv H locs ls F hS hW hl
  exact lv_ldcw F.1 F.2.1 F.2.2.2.2.1 (F.2.2.2.2.2.1 _ (in_TS (ciT_ok hq))) hd (h p l e s m args below meth c D CA B sa sv H locs ls F hS hW hl)
theorem G_ldc2 {d mi pc : Nat} {lv : LV} {st : List Value} {r : Rr} {g : Gi} {j : Gl} {Q : QT} {ix : Nat} {q : Int × Nat} (hd : decode (mB mi) pc = .ok (.ldc2_w ix, 3)) (hq : lk2 ((clTL[mO mi]?).getD []) ix = some q) (h : G d mi (pc + 3) lv (.long (c64 q.1) :: st) r g j Q) : G d mi pc lv st r g j Q := by
  intro p l e s m args below meth c D CA B sa sv H locs ls F hS hW hl
  exact lv_ldc2 F.1 F.2.1 F.2.2.2.2.1 (F.2.2.2.2.2.1 _ (in_TS (clT_ok hq))) hd (h p l e s m args below meth c D CA B sa sv H locs ls F hS hW hl)
theorem u32_nat {k : Nat} (h : k < 25) : (UInt32.ofNat k).toNat = k := by
  rw [UInt32.toNat_ofNat']; omega
theorem csT_lt {oc : Nat} : ∀ q ∈ (csTL[oc]?).getD [], q.2.1 < 25 := by
  have h0 : csTL.all (fun l => l.all (fun q => Nat.blt q.2.1 25)) = true := by decide +kernel
  intro q hq
  cases hc : csTL[oc]? with
  | none => rw [hc] at hq; simp at hq
  | some l =>
    rw [hc] at hq
    have := List.all_eq_true.mp (List.all_eq_true.mp h0 l (List.mem_of_getElem? hc)) q hq
    exact Nat.le_of_ble_eq_true this
theorem G_ldcS {d mi pc : Nat} {lv : LV} {st : List Value} {r : Rr} {g : Gi} {j : Gl} {Q : QT} {ix : Nat} {q : Nat × Nat} (hd : decode (mB mi) pc = .ok (.ldc ix, 2)) (hq : lk2 ((csTL[mO mi]?).getD []) ix = some q) (h : G d mi (pc + 2) lv (.float (UInt32.ofNat q.1) :: st) r g j Q) : G d mi pc lv st r g j Q := by
  intro p l e s m args below meth c D CA B sa sv H locs ls F hS hW hl
  have hm := lk2_mem hq
  have hR := F.2.2.2.2.2.2.2.2.2.2 (mO mi) _ hm
  have h2 : W p l e (rmd d) s m args below meth c H locs 0 0 (MQ below (QC D CA B sa Q) args s 0 0 (AB B)) (F0 m (pc + 2) ls (.ref (sa q.1) :: trs B sa st)) := by
    have h3 := h p l e s m args below meth c D CA B sa sv H locs ls F hS hW hl
    have e : tr B sa (.float (UInt32.ofNat q.1)) = .ref (sa q.1) := by
      show Value.ref (sa (UInt32.ofNat q.1).toNat) = _
      rw [u32_nat (csT_lt _ hm)]
    rw [← e]
    exact h3
  exact va_ldcS F.1 F.2.1 F.2.2.2.2.1 hR hd h2
theorem G_ldc_wS {d mi pc : Nat} {lv : LV} {st : List Value} {r : Rr} {g : Gi} {j : Gl} {Q : QT} {ix : Nat} {q : Nat × Nat} (hd : decode (mB mi) pc = .ok (.ldc_w ix, 3)) (hq : lk2 ((csTL[mO mi]?).getD []) ix = some q) (h : G d mi (pc + 3) lv (.float (UInt32.ofNat q.1) :: st) r g j Q) : G d mi pc lv st r g j Q := by
  intro p l e s m args below meth c D CA B sa sv H locs ls F hS hW hl
  have hm := lk2_mem hq
  have hR := F.2.2.2.2.2.2.2.2.2.2 (mO mi) _ hm
  have h2 : W p l e (rmd d) s m args below meth c H locs 0 0 (MQ below (QC D CA B sa Q) args s 0 0 (AB B)) (F0 m (pc + 3) ls (.ref (sa q.1) :: trs B sa st)) := by
    have h3 := h p l e s m args below meth c D CA B sa sv H locs ls F hS hW hl
    have e : tr B sa (.float (UInt32.ofNat q.1)) = .ref (sa q.1) := by
      show Value.ref (sa (UInt32.ofNat q.1).toNat) = _
      rw [u32_nat (csT_lt _ hm)]
    rw [← e]
    exact h3
  intro T hT X
  obtain ⟨t, a1, b1⟩ := h2 T hT X
  exact ⟨t, X.ldcStringW F.1 F.2.2.2.2.1 (text := (txL[q.1]?).getD "") (a := sa q.1) hR.1 hR.2 (g := F0 m pc ls (trs B sa st)) rfl (by rw [F.2.1]; exact hd) t a1, b1⟩
theorem G_if_eq {d mi pc : Nat} {lv : LV} {st : List Value} {r : Rr} {g : Gi} {j : Gl} {Q : QT} {x : Int32} {off : Int} {tgt : Nat} (hd : decode (mB mi) pc = .ok (.ifCond .eq off, 3)) (ht : (pc : Int) + off = (tgt : Int)) (hp : x = 0 → G d mi tgt lv st r g j Q) (hn : ¬ x = 0 → G d mi (pc + 3) lv st r g j Q) : G d mi pc lv (.int x :: st) r g j Q := by
  intro p l e s m args below meth c D CA B sa sv H locs ls F hS hW hl
  exact lv_if_eq F.1 F.2.1 hd ht (fun c0 => hp c0 p l e s m args below meth c D CA B sa sv H locs ls F hS hW hl) (fun c0 => hn c0 p l e s m args below meth c D CA B sa sv H locs ls F hS hW hl)
theorem G_if_ne {d mi pc : Nat} {lv : LV} {st : List Value} {r : Rr} {g : Gi} {j : Gl} {Q : QT} {x : Int32} {off : Int} {tgt : Nat} (hd : decode (mB mi) pc = .ok (.ifCond .ne off, 3)) (ht : (pc : Int) + off = (tgt : Int)) (hp : x = 0 → G d mi (pc + 3) lv st r g j Q) (hn : ¬ x = 0 → G d mi tgt lv st r g j Q) : G d mi pc lv (.int x :: st) r g j Q := by
  intro p l e s m args below meth c D CA B sa sv H locs ls F hS hW hl
  exact lv_if_ne F.1 F.2.1 hd ht (fun c0 => hn c0 p l e s m args below meth c D CA B sa sv H locs ls F hS hW hl) (fun c0 => hp c0 p l e s m args below meth c D CA B sa sv H locs ls F hS hW hl)
theorem G_if_lt {d mi pc : Nat} {lv : LV} {st : List Value} {r : Rr} {g : Gi} {j : Gl} {Q : QT} {x : Int32} {off : Int} {tgt : Nat} (hd : decode (mB mi) pc = .ok (.ifCond .lt off, 3)) (ht : (pc : Int) + off = (tgt : Int)) (hp : x < 0 → G d mi tgt lv st r g j Q) (hn : ¬ x < 0 → G d mi (pc + 3) lv st r g j Q) : G d mi pc lv (.int x :: st) r g j Q := by
  intro p l e s m args below meth c D CA B sa sv H locs ls F hS hW hl
  exact lv_if_lt F.1 F.2.1 hd ht (fun c0 => hp c0 p l e s m args below meth c D CA B sa sv H locs ls F hS hW hl) (fun c0 => hn c0 p l e s m args below meth c D CA B sa sv H locs ls F hS hW hl)
theorem G_if_ge {d mi pc : Nat} {lv : LV} {st : List Value} {r : Rr} {g : Gi} {j : Gl} {Q : QT} {x : Int32} {off : Int} {tgt : Nat} (hd : decode (mB mi) pc = .ok (.ifCond .ge off, 3)) (ht : (pc : Int) + off = (tgt : Int)) (hp : 0 ≤ x → G d mi tgt lv st r g j Q) (hn : ¬ 0 ≤ x → G d mi (pc + 3) lv st r g j Q) : G d mi pc lv (.int x :: st) r g j Q := by
  intro p l e s m args below meth c D CA B sa sv H locs ls F hS hW hl
  exact lv_if_ge F.1 F.2.1 hd ht (fun c0 => hp c0 p l e s m args below meth c D CA B sa sv H locs ls F hS hW hl) (fun c0 => hn c0 p l e s m args below meth c D CA B sa sv H locs ls F hS hW hl)
theorem G_if_gt {d mi pc : Nat} {lv : LV} {st : List Value} {r : Rr} {g : Gi} {j : Gl} {Q : QT} {x : Int32} {off : Int} {tgt : Nat} (hd : decode (mB mi) pc = .ok (.ifCond .gt off, 3)) (ht : (pc : Int) + off = (tgt : Int)) (hp : 0 < x → G d mi tgt lv st r g j Q) (hn : ¬ 0 < x → G d mi (pc + 3) lv st r g j Q) : G d mi pc lv (.int x :: st) r g j Q := by
  intro p l e s m args below meth c D CA B sa sv H locs ls F hS hW hl
  exact lv_if_gt F.1 F.2.1 hd ht (fun c0 => hp c0 p l e s m args below meth c D CA B sa sv H locs ls F hS hW hl) (fun c0 => hn c0 p l e s m args below meth c D CA B sa sv H locs ls F hS hW hl)
theorem G_if_le {d mi pc : Nat} {lv : LV} {st : List Value} {r : Rr} {g : Gi} {j : Gl} {Q : QT} {x : Int32} {off : Int} {tgt : Nat} (hd : decode (mB mi) pc = .ok (.ifCond .le off, 3)) (ht : (pc : Int) + off = (tgt : Int)) (hp : x ≤ 0 → G d mi tgt lv st r g j Q) (hn : ¬ x ≤ 0 → G d mi (pc + 3) lv st r g j Q) : G d mi pc lv (.int x :: st) r g j Q := by
  intro p l e s m args below meth c D CA B sa sv H locs ls F hS hW hl
  exact lv_if_le F.1 F.2.1 hd ht (fun c0 => hp c0 p l e s m args below meth c D CA B sa sv H locs ls F hS hW hl) (fun c0 => hn c0 p l e s m args below meth c D CA B sa sv H locs ls F hS hW hl)
theorem G_icmp_eq {d mi pc : Nat} {lv : LV} {st : List Value} {r : Rr} {g : Gi} {j : Gl} {Q : QT} {x y : Int32} {off : Int} {tgt : Nat} (hd : decode (mB mi) pc = .ok (.if_icmp .eq off, 3)) (ht : (pc : Int) + off = (tgt : Int)) (hp : x = y → G d mi tgt lv st r g j Q) (hn : ¬ x = y → G d mi (pc + 3) lv st r g j Q) : G d mi pc lv (.int y :: .int x :: st) r g j Q := by
  intro p l e s m args below meth c D CA B sa sv H locs ls F hS hW hl
  exact lv_icmp_eq F.1 F.2.1 hd ht (fun c0 => hp c0 p l e s m args below meth c D CA B sa sv H locs ls F hS hW hl) (fun c0 => hn c0 p l e s m args below meth c D CA B sa sv H locs ls F hS hW hl)
theorem G_icmp_ne {d mi pc : Nat} {lv : LV} {st : List Value} {r : Rr} {g : Gi} {j : Gl} {Q : QT} {x y : Int32} {off : Int} {tgt : Nat} (hd : decode (mB mi) pc = .ok (.if_icmp .ne off, 3)) (ht : (pc : Int) + off = (tgt : Int)) (hp : x = y → G d mi (pc + 3) lv st r g j Q) (hn : ¬ x = y → G d mi tgt lv st r g j Q) : G d mi pc lv (.int y :: .int x :: st) r g j Q := by
  intro p l e s m args below meth c D CA B sa sv H locs ls F hS hW hl
  exact lv_icmp_ne F.1 F.2.1 hd ht (fun c0 => hn c0 p l e s m args below meth c D CA B sa sv H locs ls F hS hW hl) (fun c0 => hp c0 p l e s m args below meth c D CA B sa sv H locs ls F hS hW hl)
theorem G_icmp_lt {d mi pc : Nat} {lv : LV} {st : List Value} {r : Rr} {g : Gi} {j : Gl} {Q : QT} {x y : Int32} {off : Int} {tgt : Nat} (hd : decode (mB mi) pc = .ok (.if_icmp .lt off, 3)) (ht : (pc : Int) + off = (tgt : Int)) (hp : x < y → G d mi tgt lv st r g j Q) (hn : ¬ x < y → G d mi (pc + 3) lv st r g j Q) : G d mi pc lv (.int y :: .int x :: st) r g j Q := by
  intro p l e s m args below meth c D CA B sa sv H locs ls F hS hW hl
  exact lv_icmp_lt F.1 F.2.1 hd ht (fun c0 => hp c0 p l e s m args below meth c D CA B sa sv H locs ls F hS hW hl) (fun c0 => hn c0 p l e s m args below meth c D CA B sa sv H locs ls F hS hW hl)
theorem G_icmp_ge {d mi pc : Nat} {lv : LV} {st : List Value} {r : Rr} {g : Gi} {j : Gl} {Q : QT} {x y : Int32} {off : Int} {tgt : Nat} (hd : decode (mB mi) pc = .ok (.if_icmp .ge off, 3)) (ht : (pc : Int) + off = (tgt : Int)) (hp : y ≤ x → G d mi tgt lv st r g j Q) (hn : ¬ y ≤ x → G d mi (pc + 3) lv st r g j Q) : G d mi pc lv (.int y :: .int x :: st) r g j Q := by
  intro p l e s m args below meth c D CA B sa sv H locs ls F hS hW hl
  exact lv_icmp_ge F.1 F.2.1 hd ht (fun c0 => hp c0 p l e s m args below meth c D CA B sa sv H locs ls F hS hW hl) (fun c0 => hn c0 p l e s m args below meth c D CA B sa sv H locs ls F hS hW hl)
theorem G_icmp_gt {d mi pc : Nat} {lv : LV} {st : List Value} {r : Rr} {g : Gi} {j : Gl} {Q : QT} {x y : Int32} {off : Int} {tgt : Nat} (hd : decode (mB mi) pc = .ok (.if_icmp .gt off, 3)) (ht : (pc : Int) + off = (tgt : Int)) (hp : y < x → G d mi tgt lv st r g j Q) (hn : ¬ y < x → G d mi (pc + 3) lv st r g j Q) : G d mi pc lv (.int y :: .int x :: st) r g j Q := by
  intro p l e s m args below meth c D CA B sa sv H locs ls F hS hW hl
  exact lv_icmp_gt F.1 F.2.1 hd ht (fun c0 => hp c0 p l e s m args below meth c D CA B sa sv H locs ls F hS hW hl) (fun c0 => hn c0 p l e s m args below meth c D CA B sa sv H locs ls F hS hW hl)
theorem G_icmp_le {d mi pc : Nat} {lv : LV} {st : List Value} {r : Rr} {g : Gi} {j : Gl} {Q : QT} {x y : Int32} {off : Int} {tgt : Nat} (hd : decode (mB mi) pc = .ok (.if_icmp .le off, 3)) (ht : (pc : Int) + off = (tgt : Int)) (hp : x ≤ y → G d mi tgt lv st r g j Q) (hn : ¬ x ≤ y → G d mi (pc + 3) lv st r g j Q) : G d mi pc lv (.int y :: .int x :: st) r g j Q := by
  intro p l e s m args below meth c D CA B sa sv H locs ls F hS hW hl
  exact lv_icmp_le F.1 F.2.1 hd ht (fun c0 => hp c0 p l e s m args below meth c D CA B sa sv H locs ls F hS hW hl) (fun c0 => hn c0 p l e s m args below meth c D CA B sa sv H locs ls F hS hW hl)
theorem G_goto {d mi pc : Nat} {lv : LV} {st : List Value} {r : Rr} {g : Gi} {j : Gl} {Q : QT} {off : Int} {tgt : Nat} (hd : decode (mB mi) pc = .ok (.goto off, 3)) (ht : (pc : Int) + off = (tgt : Int)) (h : G d mi tgt lv st r g j Q) : G d mi pc lv st r g j Q := by
  intro p l e s m args below meth c D CA B sa sv H locs ls F hS hW hl
  exact lv_goto F.1 F.2.1 hd ht (h p l e s m args below meth c D CA B sa sv H locs ls F hS hW hl)

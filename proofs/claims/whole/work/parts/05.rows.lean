/-! ===== a row an instruction ===== -/
section
variable {K : jj_K} {M : jj_M} {P : Option Value → wo_T → Prop} {pc : Nat} {l : List (Nat × Value)} {st : List Value} {w : wo_T}
theorem jj_loc {ls : Array Slot} {nL i n : Nat} {v : Value} (hl : lv_has ls nL (jj_lm K l)) (h : l[i]? = some (n, v)) : ls[n]? = some (.val (wo_mv K.1.1 v)) := lv_at hl i (by simp [jj_lm, h])
theorem jj_fil (K : jj_K) (l : List (Nat × Value)) (p : Nat → Nat → Bool) : (jj_lm K l).filter (fun q => p q.1 q.2.category) = jj_lm K (l.filter (fun q => p q.1 q.2.category)) := by
  induction l with
  | nil => rfl
  | cons a l ih =>
    simp only [jj_lm, List.map_cons, List.filter_cons, wo_mv_cat] at ih ⊢
    rw [ih]
    split <;> rfl
theorem jj_sub (ks : List Nat) {l' : List (Nat × Value)} (h : lv_pick l ks = l') (k : jj_J K M P pc l' st w) : jj_J K M P pc l st w := by
  intro p e s m args below meth c X H locs ls hP hS hl
  refine k p e s m args below meth c X H locs ls hP hS (lv_sub hl ks ?_)
  rw [← h]
  simp only [lv_pick, jj_lm, List.map_filterMap, List.getElem?_map]
theorem jj_iconst {n : Int} {v : Int32} (hd : decode M.2.1 pc = .ok (.iconst n, 1)) (hv : Int32.ofInt n = v) (k : jj_J K M P (pc + 1) l (.int v :: st) w) : jj_J K M P pc l (st) w := by
  intro p e s m args below meth c X H locs ls hP hS hl
  exact lv_iconst X.1 X.2.1 hd hv (k p e s m args below meth c X H locs ls hP hS hl)
theorem jj_bipush {n : Int} {v : Int32} (hd : decode M.2.1 pc = .ok (.bipush n, 2)) (hv : (Int8.ofInt n).toInt32 = v) (k : jj_J K M P (pc + 2) l (.int v :: st) w) : jj_J K M P pc l (st) w := by
  intro p e s m args below meth c X H locs ls hP hS hl
  exact lv_bipush X.1 X.2.1 hd hv (k p e s m args below meth c X H locs ls hP hS hl)
theorem jj_sipush {n : Int} {v : Int32} (hd : decode M.2.1 pc = .ok (.sipush n, 3)) (hv : (Int16.ofInt n).toInt32 = v) (k : jj_J K M P (pc + 3) l (.int v :: st) w) : jj_J K M P pc l (st) w := by
  intro p e s m args below meth c X H locs ls hP hS hl
  exact lv_sipush X.1 X.2.1 hd hv (k p e s m args below meth c X H locs ls hP hS hl)
theorem jj_lconst {n : Fin 2} {v : Int64} (hd : decode M.2.1 pc = .ok (.lconst n, 1)) (hv : Int64.ofNat (n : Nat) = v) (k : jj_J K M P (pc + 1) l (.long v :: st) w) : jj_J K M P pc l (st) w := by
  intro p e s m args below meth c X H locs ls hP hS hl
  exact lv_lconst X.1 X.2.1 hd hv (k p e s m args below meth c X H locs ls hP hS hl)
theorem jj_iload_n {n : Fin 4} {x : Int32} (hd : decode M.2.1 pc = .ok (.iload_n n, 1)) (i : Nat) (h : l[i]? = some ((n : Nat), .int x)) (k : jj_J K M P (pc + 1) l (.int x :: st) w) : jj_J K M P pc l st w := by
  intro p e s m args below meth c X H locs ls hP hS hl
  exact lv_iload_n X.1 X.2.1 hd rfl (jj_loc hl h) (k p e s m args below meth c X H locs ls hP hS hl)
theorem jj_iload {n : Nat} {x : Int32} (hd : decode M.2.1 pc = .ok (.iload n, 2)) (i : Nat) (h : l[i]? = some (n, .int x)) (k : jj_J K M P (pc + 2) l (.int x :: st) w) : jj_J K M P pc l st w := by
  intro p e s m args below meth c X H locs ls hP hS hl
  exact lv_iload X.1 X.2.1 hd (jj_loc hl h) (k p e s m args below meth c X H locs ls hP hS hl)
theorem jj_istore_n {n : Fin 4} {x : Int32} {l2 : List (Nat × Value)} (hd : decode M.2.1 pc = .ok (.istore_n n, 1)) (hn : (n : Nat) < M.2.2.1) (h : ((n : Nat), Value.int x) :: l.filter (fun q => !(q.1 == (n : Nat)) && !(q.1 + 1 == (n : Nat) && q.2.category == 2)) = l2) (k : jj_J K M P (pc + 1) l2 st w) : jj_J K M P pc l (.int x :: st) w := by
  intro p e s m args below meth c X H locs ls hP hS hl
  exact lv_istore_n (lv := jj_lm K l) (lv' := jj_lm K l2) X.1 X.2.1 hd rfl hl hn (by subst h; exact congrArg (List.cons ((n : Nat), wo_mv K.1.1 (.int x))) (jj_fil K l (fun a b => !(a == (n : Nat)) && !(a + 1 == (n : Nat) && b == 2)))) (fun ls hl => (k p e s m args below meth c X H locs ls hP hS hl))
theorem jj_istore {n : Nat} {x : Int32} {l2 : List (Nat × Value)} (hd : decode M.2.1 pc = .ok (.istore n, 2)) (hn : n < M.2.2.1) (h : (n, Value.int x) :: l.filter (fun q => !(q.1 == n) && !(q.1 + 1 == n && q.2.category == 2)) = l2) (k : jj_J K M P (pc + 2) l2 st w) : jj_J K M P pc l (.int x :: st) w := by
  intro p e s m args below meth c X H locs ls hP hS hl
  exact lv_istore (lv := jj_lm K l) (lv' := jj_lm K l2) X.1 X.2.1 hd hl hn (by subst h; exact congrArg (List.cons (n, wo_mv K.1.1 (.int x))) (jj_fil K l (fun a b => !(a == n) && !(a + 1 == n && b == 2)))) (fun ls hl => (k p e s m args below meth c X H locs ls hP hS hl))
theorem jj_lload_n {n : Fin 4} {x : Int64} (hd : decode M.2.1 pc = .ok (.lload_n n, 1)) (i : Nat) (h : l[i]? = some ((n : Nat), .long x)) (k : jj_J K M P (pc + 1) l (.long x :: st) w) : jj_J K M P pc l st w := by
  intro p e s m args below meth c X H locs ls hP hS hl
  exact lv_lload_n X.1 X.2.1 hd rfl (jj_loc hl h) (k p e s m args below meth c X H locs ls hP hS hl)
theorem jj_lload {n : Nat} {x : Int64} (hd : decode M.2.1 pc = .ok (.lload n, 2)) (i : Nat) (h : l[i]? = some (n, .long x)) (k : jj_J K M P (pc + 2) l (.long x :: st) w) : jj_J K M P pc l st w := by
  intro p e s m args below meth c X H locs ls hP hS hl
  exact lv_lload X.1 X.2.1 hd (jj_loc hl h) (k p e s m args below meth c X H locs ls hP hS hl)
theorem jj_lstore_n {n : Fin 4} {x : Int64} {l2 : List (Nat × Value)} (hd : decode M.2.1 pc = .ok (.lstore_n n, 1)) (hn : (n : Nat) + 1 < M.2.2.1) (h : ((n : Nat), Value.long x) :: l.filter (fun q => !(q.1 == (n : Nat)) && (!(q.1 == (n : Nat) + 1) && !(q.1 + 1 == (n : Nat) && q.2.category == 2))) = l2) (k : jj_J K M P (pc + 1) l2 st w) : jj_J K M P pc l (.long x :: st) w := by
  intro p e s m args below meth c X H locs ls hP hS hl
  exact lv_lstore_n (lv := jj_lm K l) (lv' := jj_lm K l2) X.1 X.2.1 hd rfl hl hn (by subst h; exact congrArg (List.cons ((n : Nat), wo_mv K.1.1 (.long x))) (jj_fil K l (fun a b => !(a == (n : Nat)) && (!(a == (n : Nat) + 1) && !(a + 1 == (n : Nat) && b == 2))))) (fun ls hl => (k p e s m args below meth c X H locs ls hP hS hl))
theorem jj_lstore {n : Nat} {x : Int64} {l2 : List (Nat × Value)} (hd : decode M.2.1 pc = .ok (.lstore n, 2)) (hn : n + 1 < M.2.2.1) (h : (n, Value.long x) :: l.filter (fun q => !(q.1 == n) && (!(q.1 == n + 1) && !(q.1 + 1 == n && q.2.category == 2))) = l2) (k : jj_J K M P (pc + 2) l2 st w) : jj_J K M P pc l (.long x :: st) w := by
  intro p e s m args below meth c X H locs ls hP hS hl
  exact lv_lstore (lv := jj_lm K l) (lv' := jj_lm K l2) X.1 X.2.1 hd hl hn (by subst h; exact congrArg (List.cons (n, wo_mv K.1.1 (.long x))) (jj_fil K l (fun a b => !(a == n) && (!(a == n + 1) && !(a + 1 == n && b == 2))))) (fun ls hl => (k p e s m args below meth c X H locs ls hP hS hl))
theorem jj_aload_n {n : Fin 4} {x : Nat} (hd : decode M.2.1 pc = .ok (.aload_n n, 1)) (i : Nat) (h : l[i]? = some ((n : Nat), .ref x)) (k : jj_J K M P (pc + 1) l (.ref x :: st) w) : jj_J K M P pc l st w := by
  intro p e s m args below meth c X H locs ls hP hS hl
  exact lv_aload_n X.1 X.2.1 hd rfl (jj_loc hl h) (k p e s m args below meth c X H locs ls hP hS hl)
theorem jj_aload {n : Nat} {x : Nat} (hd : decode M.2.1 pc = .ok (.aload n, 2)) (i : Nat) (h : l[i]? = some (n, .ref x)) (k : jj_J K M P (pc + 2) l (.ref x :: st) w) : jj_J K M P pc l st w := by
  intro p e s m args below meth c X H locs ls hP hS hl
  exact lv_aload X.1 X.2.1 hd (jj_loc hl h) (k p e s m args below meth c X H locs ls hP hS hl)
theorem jj_astore_n {n : Fin 4} {x : Nat} {l2 : List (Nat × Value)} (hd : decode M.2.1 pc = .ok (.astore_n n, 1)) (hn : (n : Nat) < M.2.2.1) (h : ((n : Nat), Value.ref x) :: l.filter (fun q => !(q.1 == (n : Nat)) && !(q.1 + 1 == (n : Nat) && q.2.category == 2)) = l2) (k : jj_J K M P (pc + 1) l2 st w) : jj_J K M P pc l (.ref x :: st) w := by
  intro p e s m args below meth c X H locs ls hP hS hl
  exact lv_astore_n (lv := jj_lm K l) (lv' := jj_lm K l2) X.1 X.2.1 hd rfl hl hn (by subst h; exact congrArg (List.cons ((n : Nat), wo_mv K.1.1 (.ref x))) (jj_fil K l (fun a b => !(a == (n : Nat)) && !(a + 1 == (n : Nat) && b == 2)))) (fun ls hl => (k p e s m args below meth c X H locs ls hP hS hl))
theorem jj_astore {n : Nat} {x : Nat} {l2 : List (Nat × Value)} (hd : decode M.2.1 pc = .ok (.astore n, 2)) (hn : n < M.2.2.1) (h : (n, Value.ref x) :: l.filter (fun q => !(q.1 == n) && !(q.1 + 1 == n && q.2.category == 2)) = l2) (k : jj_J K M P (pc + 2) l2 st w) : jj_J K M P pc l (.ref x :: st) w := by
  intro p e s m args below meth c X H locs ls hP hS hl
  exact lv_astore (lv := jj_lm K l) (lv' := jj_lm K l2) X.1 X.2.1 hd hl hn (by subst h; exact congrArg (List.cons (n, wo_mv K.1.1 (.ref x))) (jj_fil K l (fun a b => !(a == n) && !(a + 1 == n && b == 2)))) (fun ls hl => (k p e s m args below meth c X H locs ls hP hS hl))
theorem jj_iinc {n : Nat} {z : Int} {x v : Int32} {l2 : List (Nat × Value)} (hd : decode M.2.1 pc = .ok (.iinc n z, 3)) (i : Nat) (hi : l[i]? = some (n, .int x)) (hv : x + Int32.ofInt z = v) (hn : n < M.2.2.1) (h : (n, Value.int v) :: l.filter (fun q => !(q.1 == n) && !(q.1 + 1 == n && q.2.category == 2)) = l2) (k : jj_J K M P (pc + 3) l2 st w) : jj_J K M P pc l st w := by
  intro p e s m args below meth c X H locs ls hP hS hl
  exact lv_iinc (lv := jj_lm K l) (lv' := jj_lm K l2) (k := i) (x := x) X.1 X.2.1 hd hl (by simp [jj_lm, hi, wo_mv]) hv hn (by subst h; exact congrArg (List.cons (n, wo_mv K.1.1 (.int v))) (jj_fil K l (fun a b => !(a == n) && !(a + 1 == n && b == 2)))) (fun ls hl => (k p e s m args below meth c X H locs ls hP hS hl))
theorem jj_iadd {x y : Int32} (hd : decode M.2.1 pc = .ok (.iadd, 1)) (k : jj_J K M P (pc + 1) l (.int (x + y) :: st) w) : jj_J K M P pc l (.int y :: .int x :: st) w := by
  intro p e s m args below meth c X H locs ls hP hS hl
  exact lv_iadd X.1 X.2.1 hd (k p e s m args below meth c X H locs ls hP hS hl)
theorem jj_isub {x y : Int32} (hd : decode M.2.1 pc = .ok (.isub, 1)) (k : jj_J K M P (pc + 1) l (.int (x - y) :: st) w) : jj_J K M P pc l (.int y :: .int x :: st) w := by
  intro p e s m args below meth c X H locs ls hP hS hl
  exact lv_isub X.1 X.2.1 hd (k p e s m args below meth c X H locs ls hP hS hl)
theorem jj_imul {x y : Int32} (hd : decode M.2.1 pc = .ok (.imul, 1)) (k : jj_J K M P (pc + 1) l (.int (x * y) :: st) w) : jj_J K M P pc l (.int y :: .int x :: st) w := by
  intro p e s m args below meth c X H locs ls hP hS hl
  exact lv_imul X.1 X.2.1 hd (k p e s m args below meth c X H locs ls hP hS hl)
theorem jj_iand {x y : Int32} (hd : decode M.2.1 pc = .ok (.iand, 1)) (k : jj_J K M P (pc + 1) l (.int (x &&& y) :: st) w) : jj_J K M P pc l (.int y :: .int x :: st) w := by
  intro p e s m args below meth c X H locs ls hP hS hl
  exact lv_iand X.1 X.2.1 hd (k p e s m args below meth c X H locs ls hP hS hl)
theorem jj_ior {x y : Int32} (hd : decode M.2.1 pc = .ok (.ior, 1)) (k : jj_J K M P (pc + 1) l (.int (x ||| y) :: st) w) : jj_J K M P pc l (.int y :: .int x :: st) w := by
  intro p e s m args below meth c X H locs ls hP hS hl
  exact lv_ior X.1 X.2.1 hd (k p e s m args below meth c X H locs ls hP hS hl)
theorem jj_ixor {x y : Int32} (hd : decode M.2.1 pc = .ok (.ixor, 1)) (k : jj_J K M P (pc + 1) l (.int (x ^^^ y) :: st) w) : jj_J K M P pc l (.int y :: .int x :: st) w := by
  intro p e s m args below meth c X H locs ls hP hS hl
  exact lv_ixor X.1 X.2.1 hd (k p e s m args below meth c X H locs ls hP hS hl)
theorem jj_ishl {x y : Int32} (hd : decode M.2.1 pc = .ok (.ishl, 1)) (k : jj_J K M P (pc + 1) l (.int (x <<< (y &&& 31)) :: st) w) : jj_J K M P pc l (.int y :: .int x :: st) w := by
  intro p e s m args below meth c X H locs ls hP hS hl
  exact lv_ishl X.1 X.2.1 hd (k p e s m args below meth c X H locs ls hP hS hl)
theorem jj_ishr {x y : Int32} (hd : decode M.2.1 pc = .ok (.ishr, 1)) (k : jj_J K M P (pc + 1) l (.int (x >>> (y &&& 31)) :: st) w) : jj_J K M P pc l (.int y :: .int x :: st) w := by
  intro p e s m args below meth c X H locs ls hP hS hl
  exact lv_ishr X.1 X.2.1 hd (k p e s m args below meth c X H locs ls hP hS hl)
theorem jj_idiv {x y : Int32} (hd : decode M.2.1 pc = .ok (.idiv, 1)) (hne : ¬ y = 0) (k : jj_J K M P (pc + 1) l (.int (x / y) :: st) w) : jj_J K M P pc l (.int y :: .int x :: st) w := by
  intro p e s m args below meth c X H locs ls hP hS hl
  exact lv_idiv X.1 X.2.1 hd hne (k p e s m args below meth c X H locs ls hP hS hl)
theorem jj_irem {x y : Int32} (hd : decode M.2.1 pc = .ok (.irem, 1)) (hne : ¬ y = 0) (k : jj_J K M P (pc + 1) l (.int (x - x / y * y) :: st) w) : jj_J K M P pc l (.int y :: .int x :: st) w := by
  intro p e s m args below meth c X H locs ls hP hS hl
  exact lv_irem X.1 X.2.1 hd hne (k p e s m args below meth c X H locs ls hP hS hl)
theorem jj_iushr {x y : Int32} (hd : decode M.2.1 pc = .ok (.iushr, 1)) (k : jj_J K M P (pc + 1) l (.int ((x.toUInt32 >>> (y.toUInt32 &&& Int32.toUInt32 31)).toInt32) :: st) w) : jj_J K M P pc l (.int y :: .int x :: st) w := by
  intro p e s m args below meth c X H locs ls hP hS hl
  exact lv_iushr X.1 X.2.1 hd rfl (k p e s m args below meth c X H locs ls hP hS hl)
theorem jj_ineg {x : Int32} (hd : decode M.2.1 pc = .ok (.ineg, 1)) (k : jj_J K M P (pc + 1) l (.int (-x) :: st) w) : jj_J K M P pc l (.int x :: st) w := by
  intro p e s m args below meth c X H locs ls hP hS hl
  exact lv_ineg X.1 X.2.1 hd (k p e s m args below meth c X H locs ls hP hS hl)
theorem jj_ladd {x y : Int64} (hd : decode M.2.1 pc = .ok (.ladd, 1)) (k : jj_J K M P (pc + 1) l (.long (x + y) :: st) w) : jj_J K M P pc l (.long y :: .long x :: st) w := by
  intro p e s m args below meth c X H locs ls hP hS hl
  exact lv_ladd X.1 X.2.1 hd (k p e s m args below meth c X H locs ls hP hS hl)
theorem jj_lsub {x y : Int64} (hd : decode M.2.1 pc = .ok (.lsub, 1)) (k : jj_J K M P (pc + 1) l (.long (x - y) :: st) w) : jj_J K M P pc l (.long y :: .long x :: st) w := by
  intro p e s m args below meth c X H locs ls hP hS hl
  exact lv_lsub X.1 X.2.1 hd (k p e s m args below meth c X H locs ls hP hS hl)
theorem jj_lmul {x y : Int64} (hd : decode M.2.1 pc = .ok (.lmul, 1)) (k : jj_J K M P (pc + 1) l (.long (x * y) :: st) w) : jj_J K M P pc l (.long y :: .long x :: st) w := by
  intro p e s m args below meth c X H locs ls hP hS hl
  exact lv_lmul X.1 X.2.1 hd (k p e s m args below meth c X H locs ls hP hS hl)
theorem jj_ldiv {x y : Int64} (hd : decode M.2.1 pc = .ok (.ldiv, 1)) (hne : ¬ y = 0) (k : jj_J K M P (pc + 1) l (.long (x / y) :: st) w) : jj_J K M P pc l (.long y :: .long x :: st) w := by
  intro p e s m args below meth c X H locs ls hP hS hl
  exact lv_ldiv X.1 X.2.1 hd hne (k p e s m args below meth c X H locs ls hP hS hl)
theorem jj_lrem {x y : Int64} (hd : decode M.2.1 pc = .ok (.lrem, 1)) (hne : ¬ y = 0) (k : jj_J K M P (pc + 1) l (.long (x - x / y * y) :: st) w) : jj_J K M P pc l (.long y :: .long x :: st) w := by
  intro p e s m args below meth c X H locs ls hP hS hl
  exact lv_lrem X.1 X.2.1 hd hne (k p e s m args below meth c X H locs ls hP hS hl)
theorem jj_lneg {x : Int64} (hd : decode M.2.1 pc = .ok (.lneg, 1)) (k : jj_J K M P (pc + 1) l (.long (-x) :: st) w) : jj_J K M P pc l (.long x :: st) w := by
  intro p e s m args below meth c X H locs ls hP hS hl
  exact lv_lneg X.1 X.2.1 hd (k p e s m args below meth c X H locs ls hP hS hl)
theorem jj_i2l {x : Int32} (hd : decode M.2.1 pc = .ok (.i2l, 1)) (k : jj_J K M P (pc + 1) l (.long x.toInt64 :: st) w) : jj_J K M P pc l (.int x :: st) w := by
  intro p e s m args below meth c X H locs ls hP hS hl
  exact lv_i2l X.1 X.2.1 hd rfl (k p e s m args below meth c X H locs ls hP hS hl)
theorem jj_l2i {x : Int64} (hd : decode M.2.1 pc = .ok (.l2i, 1)) (k : jj_J K M P (pc + 1) l (.int x.toInt32 :: st) w) : jj_J K M P pc l (.long x :: st) w := by
  intro p e s m args below meth c X H locs ls hP hS hl
  exact lv_l2i X.1 X.2.1 hd rfl (k p e s m args below meth c X H locs ls hP hS hl)
theorem jj_lcmp {x y : Int64} (hd : decode M.2.1 pc = .ok (.lcmp, 1)) (k : jj_J K M P (pc + 1) l (.int (lg_cmp x y) :: st) w) : jj_J K M P pc l (.long y :: .long x :: st) w := by
  intro p e s m args below meth c X H locs ls hP hS hl
  exact W.lcmp X.1 X.2.1 hd (k p e s m args below meth c X H locs ls hP hS hl)
theorem jj_dup {v : Value} (hd : decode M.2.1 pc = .ok (.dup, 1)) (hv : v.category = 1) (k : jj_J K M P (pc + 1) l (v :: v :: st) w) : jj_J K M P pc l (v :: st) w := by
  intro p e s m args below meth c X H locs ls hP hS hl
  exact lv_dup X.1 X.2.1 hd (by rw [wo_mv_cat]; exact hv) (k p e s m args below meth c X H locs ls hP hS hl)
theorem jj_pop {v : Value} (hd : decode M.2.1 pc = .ok (.pop, 1)) (hv : v.category = 1) (k : jj_J K M P (pc + 1) l st w) : jj_J K M P pc l (v :: st) w := by
  intro p e s m args below meth c X H locs ls hP hS hl
  exact lv_pop X.1 X.2.1 hd (by rw [wo_mv_cat]; exact hv) (k p e s m args below meth c X H locs ls hP hS hl)
theorem jj_dup2 {u v : Value} (hd : decode M.2.1 pc = .ok (.dup2, 1)) (hu : u.category = 1) (hv : v.category = 1) (k : jj_J K M P (pc + 1) l (u :: v :: u :: v :: st) w) : jj_J K M P pc l (u :: v :: st) w := by
  intro p e s m args below meth c X H locs ls hP hS hl
  exact lv_dup2_11 X.1 X.2.1 hd (by rw [wo_mv_cat]; exact hu) (by rw [wo_mv_cat]; exact hv) (k p e s m args below meth c X H locs ls hP hS hl)
theorem jj_if_eq {x : Int32} {off : Int} {tgt : Nat} (hd : decode M.2.1 pc = .ok (.ifCond .eq off, 3)) (ht : (pc : Int) + off = (tgt : Int)) (kt : x = 0 → jj_J K M P tgt l st w) (kf : ¬ x = 0 → jj_J K M P (pc + 3) l st w) : jj_J K M P pc l (.int x :: st) w := by
  intro p e s m args below meth c X H locs ls hP hS hl
  exact lv_if_eq X.1 X.2.1 hd ht (fun z => kt z p e s m args below meth c X H locs ls hP hS hl) (fun z => kf z p e s m args below meth c X H locs ls hP hS hl)
theorem jj_icmp_eq {x y : Int32} {off : Int} {tgt : Nat} (hd : decode M.2.1 pc = .ok (.if_icmp .eq off, 3)) (ht : (pc : Int) + off = (tgt : Int)) (kt : x = y → jj_J K M P tgt l st w) (kf : ¬ x = y → jj_J K M P (pc + 3) l st w) : jj_J K M P pc l (.int y :: .int x :: st) w := by
  intro p e s m args below meth c X H locs ls hP hS hl
  exact lv_icmp_eq X.1 X.2.1 hd ht (fun z => kt z p e s m args below meth c X H locs ls hP hS hl) (fun z => kf z p e s m args below meth c X H locs ls hP hS hl)
theorem jj_lcmp_eq {x y : Int64} {off : Int} {tgt : Nat} (hd0 : decode M.2.1 pc = .ok (.lcmp, 1)) (hd : decode M.2.1 (pc + 1) = .ok (.ifCond .eq off, 3)) (ht : ((pc + 1 : Nat) : Int) + off = (tgt : Int)) (kt : x = y → jj_J K M P tgt l st w) (kf : ¬ x = y → jj_J K M P (pc + 1 + 3) l st w) : jj_J K M P pc l (.long y :: .long x :: st) w := jj_lcmp hd0 (jj_if_eq hd ht (fun z => kt ((lg_cmp_eq x y).mp z)) (fun z => kf (fun q => z ((lg_cmp_eq x y).mpr q))))
theorem jj_if_ne {x : Int32} {off : Int} {tgt : Nat} (hd : decode M.2.1 pc = .ok (.ifCond .ne off, 3)) (ht : (pc : Int) + off = (tgt : Int)) (kt : ¬ x = 0 → jj_J K M P tgt l st w) (kf : x = 0 → jj_J K M P (pc + 3) l st w) : jj_J K M P pc l (.int x :: st) w := by
  intro p e s m args below meth c X H locs ls hP hS hl
  exact lv_if_ne X.1 X.2.1 hd ht (fun z => kt z p e s m args below meth c X H locs ls hP hS hl) (fun z => kf z p e s m args below meth c X H locs ls hP hS hl)
theorem jj_icmp_ne {x y : Int32} {off : Int} {tgt : Nat} (hd : decode M.2.1 pc = .ok (.if_icmp .ne off, 3)) (ht : (pc : Int) + off = (tgt : Int)) (kt : ¬ x = y → jj_J K M P tgt l st w) (kf : x = y → jj_J K M P (pc + 3) l st w) : jj_J K M P pc l (.int y :: .int x :: st) w := by
  intro p e s m args below meth c X H locs ls hP hS hl
  exact lv_icmp_ne X.1 X.2.1 hd ht (fun z => kt z p e s m args below meth c X H locs ls hP hS hl) (fun z => kf z p e s m args below meth c X H locs ls hP hS hl)
theorem jj_lcmp_ne {x y : Int64} {off : Int} {tgt : Nat} (hd0 : decode M.2.1 pc = .ok (.lcmp, 1)) (hd : decode M.2.1 (pc + 1) = .ok (.ifCond .ne off, 3)) (ht : ((pc + 1 : Nat) : Int) + off = (tgt : Int)) (kt : ¬ x = y → jj_J K M P tgt l st w) (kf : x = y → jj_J K M P (pc + 1 + 3) l st w) : jj_J K M P pc l (.long y :: .long x :: st) w := jj_lcmp hd0 (jj_if_ne hd ht (fun z => kt (fun q => z ((lg_cmp_eq x y).mpr q))) (fun z => kf ((lg_cmp_eq x y).mp z)))
theorem jj_if_lt {x : Int32} {off : Int} {tgt : Nat} (hd : decode M.2.1 pc = .ok (.ifCond .lt off, 3)) (ht : (pc : Int) + off = (tgt : Int)) (kt : x < 0 → jj_J K M P tgt l st w) (kf : ¬ x < 0 → jj_J K M P (pc + 3) l st w) : jj_J K M P pc l (.int x :: st) w := by
  intro p e s m args below meth c X H locs ls hP hS hl
  exact lv_if_lt X.1 X.2.1 hd ht (fun z => kt z p e s m args below meth c X H locs ls hP hS hl) (fun z => kf z p e s m args below meth c X H locs ls hP hS hl)
theorem jj_icmp_lt {x y : Int32} {off : Int} {tgt : Nat} (hd : decode M.2.1 pc = .ok (.if_icmp .lt off, 3)) (ht : (pc : Int) + off = (tgt : Int)) (kt : x < y → jj_J K M P tgt l st w) (kf : ¬ x < y → jj_J K M P (pc + 3) l st w) : jj_J K M P pc l (.int y :: .int x :: st) w := by
  intro p e s m args below meth c X H locs ls hP hS hl
  exact lv_icmp_lt X.1 X.2.1 hd ht (fun z => kt z p e s m args below meth c X H locs ls hP hS hl) (fun z => kf z p e s m args below meth c X H locs ls hP hS hl)
theorem jj_lcmp_lt {x y : Int64} {off : Int} {tgt : Nat} (hd0 : decode M.2.1 pc = .ok (.lcmp, 1)) (hd : decode M.2.1 (pc + 1) = .ok (.ifCond .lt off, 3)) (ht : ((pc + 1 : Nat) : Int) + off = (tgt : Int)) (kt : x < y → jj_J K M P tgt l st w) (kf : ¬ x < y → jj_J K M P (pc + 1 + 3) l st w) : jj_J K M P pc l (.long y :: .long x :: st) w := jj_lcmp hd0 (jj_if_lt hd ht (fun z => kt ((lg_cmp_lt x y).mp z)) (fun z => kf (fun q => z ((lg_cmp_lt x y).mpr q))))
theorem jj_if_ge {x : Int32} {off : Int} {tgt : Nat} (hd : decode M.2.1 pc = .ok (.ifCond .ge off, 3)) (ht : (pc : Int) + off = (tgt : Int)) (kt : 0 ≤ x → jj_J K M P tgt l st w) (kf : ¬ 0 ≤ x → jj_J K M P (pc + 3) l st w) : jj_J K M P pc l (.int x :: st) w := by
  intro p e s m args below meth c X H locs ls hP hS hl
  exact lv_if_ge X.1 X.2.1 hd ht (fun z => kt z p e s m args below meth c X H locs ls hP hS hl) (fun z => kf z p e s m args below meth c X H locs ls hP hS hl)
theorem jj_icmp_ge {x y : Int32} {off : Int} {tgt : Nat} (hd : decode M.2.1 pc = .ok (.if_icmp .ge off, 3)) (ht : (pc : Int) + off = (tgt : Int)) (kt : y ≤ x → jj_J K M P tgt l st w) (kf : ¬ y ≤ x → jj_J K M P (pc + 3) l st w) : jj_J K M P pc l (.int y :: .int x :: st) w := by
  intro p e s m args below meth c X H locs ls hP hS hl
  exact lv_icmp_ge X.1 X.2.1 hd ht (fun z => kt z p e s m args below meth c X H locs ls hP hS hl) (fun z => kf z p e s m args below meth c X H locs ls hP hS hl)
theorem jj_lcmp_ge {x y : Int64} {off : Int} {tgt : Nat} (hd0 : decode M.2.1 pc = .ok (.lcmp, 1)) (hd : decode M.2.1 (pc + 1) = .ok (.ifCond .ge off, 3)) (ht : ((pc + 1 : Nat) : Int) + off = (tgt : Int)) (kt : y ≤ x → jj_J K M P tgt l st w) (kf : ¬ y ≤ x → jj_J K M P (pc + 1 + 3) l st w) : jj_J K M P pc l (.long y :: .long x :: st) w := jj_lcmp hd0 (jj_if_ge hd ht (fun z => kt ((lg_cmp_ge x y).mp z)) (fun z => kf (fun q => z ((lg_cmp_ge x y).mpr q))))
theorem jj_if_gt {x : Int32} {off : Int} {tgt : Nat} (hd : decode M.2.1 pc = .ok (.ifCond .gt off, 3)) (ht : (pc : Int) + off = (tgt : Int)) (kt : 0 < x → jj_J K M P tgt l st w) (kf : ¬ 0 < x → jj_J K M P (pc + 3) l st w) : jj_J K M P pc l (.int x :: st) w := by
  intro p e s m args below meth c X H locs ls hP hS hl
  exact lv_if_gt X.1 X.2.1 hd ht (fun z => kt z p e s m args below meth c X H locs ls hP hS hl) (fun z => kf z p e s m args below meth c X H locs ls hP hS hl)
theorem jj_icmp_gt {x y : Int32} {off : Int} {tgt : Nat} (hd : decode M.2.1 pc = .ok (.if_icmp .gt off, 3)) (ht : (pc : Int) + off = (tgt : Int)) (kt : y < x → jj_J K M P tgt l st w) (kf : ¬ y < x → jj_J K M P (pc + 3) l st w) : jj_J K M P pc l (.int y :: .int x :: st) w := by
  intro p e s m args below meth c X H locs ls hP hS hl
  exact lv_icmp_gt X.1 X.2.1 hd ht (fun z => kt z p e s m args below meth c X H locs ls hP hS hl) (fun z => kf z p e s m args below meth c X H locs ls hP hS hl)
theorem jj_lcmp_gt {x y : Int64} {off : Int} {tgt : Nat} (hd0 : decode M.2.1 pc = .ok (.lcmp, 1)) (hd : decode M.2.1 (pc + 1) = .ok (.ifCond .gt off, 3)) (ht : ((pc + 1 : Nat) : Int) + off = (tgt : Int)) (kt : y < x → jj_J K M P tgt l st w) (kf : ¬ y < x → jj_J K M P (pc + 1 + 3) l st w) : jj_J K M P pc l (.long y :: .long x :: st) w := jj_lcmp hd0 (jj_if_gt hd ht (fun z => kt ((lg_cmp_gt x y).mp z)) (fun z => kf (fun q => z ((lg_cmp_gt x y).mpr q))))
theorem jj_if_le {x : Int32} {off : Int} {tgt : Nat} (hd : decode M.2.1 pc = .ok (.ifCond .le off, 3)) (ht : (pc : Int) + off = (tgt : Int)) (kt : x ≤ 0 → jj_J K M P tgt l st w) (kf : ¬ x ≤ 0 → jj_J K M P (pc + 3) l st w) : jj_J K M P pc l (.int x :: st) w := by
  intro p e s m args below meth c X H locs ls hP hS hl
  exact lv_if_le X.1 X.2.1 hd ht (fun z => kt z p e s m args below meth c X H locs ls hP hS hl) (fun z => kf z p e s m args below meth c X H locs ls hP hS hl)
theorem jj_icmp_le {x y : Int32} {off : Int} {tgt : Nat} (hd : decode M.2.1 pc = .ok (.if_icmp .le off, 3)) (ht : (pc : Int) + off = (tgt : Int)) (kt : x ≤ y → jj_J K M P tgt l st w) (kf : ¬ x ≤ y → jj_J K M P (pc + 3) l st w) : jj_J K M P pc l (.int y :: .int x :: st) w := by
  intro p e s m args below meth c X H locs ls hP hS hl
  exact lv_icmp_le X.1 X.2.1 hd ht (fun z => kt z p e s m args below meth c X H locs ls hP hS hl) (fun z => kf z p e s m args below meth c X H locs ls hP hS hl)
theorem jj_lcmp_le {x y : Int64} {off : Int} {tgt : Nat} (hd0 : decode M.2.1 pc = .ok (.lcmp, 1)) (hd : decode M.2.1 (pc + 1) = .ok (.ifCond .le off, 3)) (ht : ((pc + 1 : Nat) : Int) + off = (tgt : Int)) (kt : x ≤ y → jj_J K M P tgt l st w) (kf : ¬ x ≤ y → jj_J K M P (pc + 1 + 3) l st w) : jj_J K M P pc l (.long y :: .long x :: st) w := jj_lcmp hd0 (jj_if_le hd ht (fun z => kt ((lg_cmp_le x y).mp z)) (fun z => kf (fun q => z ((lg_cmp_le x y).mpr q))))
theorem jj_goto {off : Int} {tgt : Nat} (hd : decode M.2.1 pc = .ok (.goto off, 3)) (ht : (pc : Int) + off = (tgt : Int)) (k : jj_J K M P tgt l st w) : jj_J K M P pc l st w := by
  intro p e s m args below meth c X H locs ls hP hS hl
  exact lv_goto X.1 X.2.1 hd ht (k p e s m args below meth c X H locs ls hP hS hl)
theorem jj_swOut {dflt lo hi : Int} {offs : Array Int} {len : Nat} {x : Int32} {tgt : Nat} (hd : decode M.2.1 pc = .ok (.tableswitch dflt lo hi offs, len)) (h : x.toInt < lo ∨ hi < x.toInt) (ht : (pc : Int) + dflt = (tgt : Int)) (k : jj_J K M P tgt l st w) : jj_J K M P pc l (.int x :: st) w := by
  intro p e s m args below meth c X H locs ls hP hS hl
  exact lv_tableOut X.1 X.2.1 hd h ht (k p e s m args below meth c X H locs ls hP hS hl)
theorem jj_swIn {dflt lo hi : Int} {offs : Array Int} {len : Nat} {x : Int32} {off : Int} {tgt : Nat} (hd : decode M.2.1 pc = .ok (.tableswitch dflt lo hi offs, len)) (h1 : ¬ x.toInt < lo) (h2 : ¬ hi < x.toInt) (ho : offs[(x.toInt - lo).toNat]? = some off) (ht : (pc : Int) + off = (tgt : Int)) (k : jj_J K M P tgt l st w) : jj_J K M P pc l (.int x :: st) w := by
  intro p e s m args below meth c X H locs ls hP hS hl
  exact lv_tableIn X.1 X.2.1 hd h1 h2 ho ht (k p e s m args below meth c X H locs ls hP hS hl)
theorem jj_ldc {idx : Nat} {v : Int32} (hd : decode M.2.1 pc = .ok (.ldc idx, 2)) (hc : Cond.constant M.1.cls idx v ∈ jj_tb) (k : jj_J K M P (pc + 2) l (.int v :: st) w) : jj_J K M P pc l st w := by
  intro p e s m args below meth c X H locs ls hP hS hl
  exact lv_ldc X.1 X.2.1 X.2.2.2.1 (X.2.2.2.2.1 _ hc) hd (k p e s m args below meth c X H locs ls hP hS hl)
theorem jj_ldcw {idx : Nat} {v : Int32} (hd : decode M.2.1 pc = .ok (.ldc_w idx, 3)) (hc : Cond.constant M.1.cls idx v ∈ jj_tb) (k : jj_J K M P (pc + 3) l (.int v :: st) w) : jj_J K M P pc l st w := by
  intro p e s m args below meth c X H locs ls hP hS hl
  exact lv_ldcw X.1 X.2.1 X.2.2.2.1 (X.2.2.2.2.1 _ hc) hd (k p e s m args below meth c X H locs ls hP hS hl)
theorem jj_ldc2 {idx : Nat} {v : Int64} (hd : decode M.2.1 pc = .ok (.ldc2_w idx, 3)) (hc : Cond.constantLong M.1.cls idx v ∈ jj_tb) (k : jj_J K M P (pc + 3) l (.long v :: st) w) : jj_J K M P pc l st w := by
  intro p e s m args below meth c X H locs ls hP hS hl
  exact lv_ldc2 X.1 X.2.1 X.2.2.2.1 (X.2.2.2.2.1 _ hc) hd (k p e s m args below meth c X H locs ls hP hS hl)
/-- the tables' words of the classes' fields are among jj_tb -/
def jj_inC : Prop := ∀ (ci : Nat) (q : vw_C), vwCl[ci]? = some q → ∀ w ∈ u_ws q.1 q.2.1 q.2.2, w ∈ jj_tb
def jj_tyC (ci : Nat) : Nat → FieldType := match ci with
  | 0 => tyX0 | 1 => tyX1 | 2 => tyX2 | 3 => tyX3 | 4 => tyX4 | 5 => tyX5 | 6 => tyX6 | _ => tyX7
theorem jj_tyOk : ∀ (ci : Nat) (q : vw_C), vwCl[ci]? = some q → ∀ k, k < q.2.2 → parseFieldDescriptor (q.2.1 k).2.2.1 = some (jj_tyC ci k) := by
  intro ci q h
  match ci, h with
  | 0, h => cases h; exact tyX0_ok
  | 1, h => cases h; exact tyX1_ok
  | 2, h => cases h; exact tyX2_ok
  | 3, h => cases h; exact tyX3_ok
  | 4, h => cases h; exact tyX4_ok
  | 5, h => cases h; exact tyX5_ok
  | 6, h => cases h; exact tyX6_ok
  | 7, h => cases h; exact tyX7_ok
  | n + 8, h => simp [vwCl] at h
theorem jj_nmOk : ∀ (ci : Nat) (q : vw_C), vwCl[ci]? = some q → ∀ a, a < q.2.2 → ∀ b, b < q.2.2 → a ≠ b → (q.2.1 a).2.1 ≠ (q.2.1 b).2.1 := by
  intro ci q h
  match ci, h with
  | 0, h => cases h; exact nmX0
  | 1, h => cases h; exact nmX1
  | 2, h => cases h; exact nmX2
  | 3, h => cases h; exact nmX3
  | 4, h => cases h; exact nmX4
  | 5, h => cases h; exact nmX5
  | 6, h => cases h; exact nmX6
  | 7, h => cases h; exact nmX7
  | n + 8, h => simp [vwCl] at h
theorem jj_inX0 : ∀ w ∈ wsX00, w ∈ jj_tb := fun w h => jj_mem ((by decide +kernel : ∀ w ∈ wsX00, w ∈ lw_tbl) w h) ((by decide +kernel : ∀ w ∈ wsX00, goodWord w = true) w h)
theorem jj_inX1 : ∀ w ∈ wsX10, w ∈ jj_tb := fun w h => jj_mem ((by decide +kernel : ∀ w ∈ wsX10, w ∈ lw_tbl) w h) ((by decide +kernel : ∀ w ∈ wsX10, goodWord w = true) w h)
theorem jj_inX2 : ∀ w ∈ wsX20, w ∈ jj_tb := fun w h => jj_mem ((by decide +kernel : ∀ w ∈ wsX20, w ∈ lw_tbl) w h) ((by decide +kernel : ∀ w ∈ wsX20, goodWord w = true) w h)
theorem jj_inX3 : ∀ w ∈ wsX30, w ∈ jj_tb := fun w h => jj_mem ((by decide +kernel : ∀ w ∈ wsX30, w ∈ lw_tbl) w h) ((by decide +kernel : ∀ w ∈ wsX30, goodWord w = true) w h)
theorem jj_inX4 : ∀ w ∈ wsX40, w ∈ jj_tb := fun w h => jj_mem ((by decide +kernel : ∀ w ∈ wsX40, w ∈ lw_tbl) w h) ((by decide +kernel : ∀ w ∈ wsX40, goodWord w = true) w h)
theorem jj_inX5 : ∀ w ∈ wsX50, w ∈ jj_tb := fun w h => jj_mem ((by decide +kernel : ∀ w ∈ wsX50, w ∈ lw_tbl) w h) ((by decide +kernel : ∀ w ∈ wsX50, goodWord w = true) w h)
theorem jj_inX6 : ∀ w ∈ wsX60, w ∈ jj_tb := fun w h => jj_mem ((by decide +kernel : ∀ w ∈ wsX60, w ∈ lw_tbl) w h) ((by decide +kernel : ∀ w ∈ wsX60, goodWord w = true) w h)
theorem jj_inX7 : ∀ w ∈ wsX70, w ∈ jj_tb := fun w h => jj_mem ((by decide +kernel : ∀ w ∈ wsX70, w ∈ lw_tbl) w h) ((by decide +kernel : ∀ w ∈ wsX70, goodWord w = true) w h)
theorem jj_inOk : jj_inC := by
  intro ci q h
  match ci, h with
  | 0, h => cases h; exact jj_inX0
  | 1, h => cases h; exact jj_inX1
  | 2, h => cases h; exact jj_inX2
  | 3, h => cases h; exact jj_inX3
  | 4, h => cases h; exact jj_inX4
  | 5, h => cases h; exact jj_inX5
  | 6, h => cases h; exact jj_inX6
  | 7, h => cases h; exact jj_inX7
  | n + 8, h => simp [vwCl] at h
theorem jj_getI {o ci k idx : Nat} {fs : List Nat} {C : String} {T : u_T} {N : Nat} (hd : decode M.2.1 pc = .ok (.getfield idx, 3)) (ho : wo_lay[o]? = some (.inl (ci, fs))) (hc : vwCl[ci]? = some (C, T, N)) (hk : k < N) (hf : fs[k]? = some 0) (hlk : Cond.fieldLink M.1.cls idx (T k).1 (T k).2.1 (T k).2.2.1 ∈ jj_tb) (kk : jj_J K M P (pc + 3) l (.int (w.1 o k) :: st) w) : jj_J K M P pc l (.ref o :: st) w := by
  intro p e s m args below meth c X H locs ls hP hS hl
  exact va_get (Ts := jj_tb) (v := wo_mv K.1.1 (.int (w.1 o k))) X.1 X.2.1 X.2.2.2.2.1 (jj_inOk ci _ hc) X.2.2.2.1 X.2.2.2.2.2.2.2.1 hP o (wo_get ho) hc k hk (X.2.2.2.2.1 _ hlk) (fun _ h => h) (by simp [List.getElem?_mapIdx, hf, wo_fv, wo_mv]) hd (kk p e s m args below meth c X H locs ls hP hS hl)
theorem jj_getL {o ci k idx : Nat} {fs : List Nat} {C : String} {T : u_T} {N : Nat} (hd : decode M.2.1 pc = .ok (.getfield idx, 3)) (ho : wo_lay[o]? = some (.inl (ci, fs))) (hc : vwCl[ci]? = some (C, T, N)) (hk : k < N) (hf : fs[k]? = some 1) (hlk : Cond.fieldLink M.1.cls idx (T k).1 (T k).2.1 (T k).2.2.1 ∈ jj_tb) (kk : jj_J K M P (pc + 3) l (.long (w.2 o k) :: st) w) : jj_J K M P pc l (.ref o :: st) w := by
  intro p e s m args below meth c X H locs ls hP hS hl
  exact va_get (Ts := jj_tb) (v := wo_mv K.1.1 (.long (w.2 o k))) X.1 X.2.1 X.2.2.2.2.1 (jj_inOk ci _ hc) X.2.2.2.1 X.2.2.2.2.2.2.2.1 hP o (wo_get ho) hc k hk (X.2.2.2.2.1 _ hlk) (fun _ h => h) (by simp [List.getElem?_mapIdx, hf, wo_fv, wo_mv]) hd (kk p e s m args below meth c X H locs ls hP hS hl)
theorem jj_getR {o ci k idx r : Nat} {fs : List Nat} {C : String} {T : u_T} {N : Nat} (hd : decode M.2.1 pc = .ok (.getfield idx, 3)) (ho : wo_lay[o]? = some (.inl (ci, fs))) (hc : vwCl[ci]? = some (C, T, N)) (hk : k < N) (hf : fs[k]? = some (r + 2)) (hlk : Cond.fieldLink M.1.cls idx (T k).1 (T k).2.1 (T k).2.2.1 ∈ jj_tb) (kk : jj_J K M P (pc + 3) l (.ref r :: st) w) : jj_J K M P pc l (.ref o :: st) w := by
  intro p e s m args below meth c X H locs ls hP hS hl
  exact va_get (Ts := jj_tb) (v := wo_mv K.1.1 (.ref r)) X.1 X.2.1 X.2.2.2.2.1 (jj_inOk ci _ hc) X.2.2.2.1 X.2.2.2.2.2.2.2.1 hP o (wo_get ho) hc k hk (X.2.2.2.2.1 _ hlk) (fun _ h => h) (by simp [List.getElem?_mapIdx, hf, wo_fv, wo_mv]) hd (kk p e s m args below meth c X H locs ls hP hS hl)
theorem jj_putI {o ci k idx : Nat} {v : Int32} {ty : FieldType} {fs : List Nat} {C : String} {T : u_T} {N : Nat} (hd : decode M.2.1 pc = .ok (.putfield idx, 3)) (ho : wo_lay[o]? = some (.inl (ci, fs))) (hc : vwCl[ci]? = some (C, T, N)) (hk : k < N) (hf : fs[k]? = some 0) (hlk : Cond.fieldLink M.1.cls idx (T k).1 (T k).2.1 (T k).2.2.1 ∈ jj_tb) (hfin : (T k).2.2.2 = false) (hty : parseFieldDescriptor (T k).2.2.1 = some ty) (hn : narrow ty (.int v) = .int v) (hfit : fits ty (.int v) = true) (kk : jj_J K M P (pc + 3) l st (wo_i w o k v)) : jj_J K M P pc l (.int v :: .ref o :: st) w := by
  intro p e s m args below meth c X H locs ls hP hS hl
  refine va_put (Ts := jj_tb) (v := .int v) X.1 X.2.1 X.2.2.2.2.1 (jj_inOk ci _ hc) (jj_tyC ci) (jj_tyOk ci _ hc) (jj_nmOk ci _ hc) X.2.2.2.1 X.2.2.2.2.2.2.2.1 hP (wo_D X.2.2.2.2.2.2.2.2.1) hS o (wo_get ho) hc k hk (X.2.2.2.2.1 _ hlk) (fun _ h => h) hfin hty hn hfit (by simpa using (List.getElem?_eq_some_iff.mp hf).1) hd (fun H1 locs1 hP1 _ hS1 => ?_)
  have e1 : (wo_rz K.1 w).set o (K.1.1 o, .inr (ci, (fs.mapIdx (fun k f => wo_fv K.1.1 w o k f)).set k (.int v))) = wo_rz K.1 (wo_i w o k v) := by
    refine wo_set ho ?_ (fun b h => wo_i_ne b h) (fun b h => rfl)
    show _ = Sum.inr (ci, _)
    congr 2
    apply List.ext_getElem?
    intro i
    rw [List.getElem?_set]
    by_cases h : k = i
    · subst h
      have := (List.getElem?_eq_some_iff.mp hf).1
      rw [if_pos rfl, if_pos (by simpa using this), List.getElem?_mapIdx, hf]
      simp [wo_fv, wo_i]
    · simp only [h, if_false, List.getElem?_mapIdx]
      cases fs[i]? with
      | none => rfl
      | some f =>
        match f with
        | 0 => simp [wo_fv, wo_i, Ne.symm h]
        | 1 => simp [wo_fv, wo_i, Ne.symm h]
        | r + 2 => simp [wo_fv]
  have hP2 : va_P K.1.2.1 vwCl (wo_rz K.1 (wo_i w o k v)) H1 := by rw [← e1]; exact hP1
  exact kk p e s m args below meth c X H1 locs1 ls hP2 hS1 hl
theorem jj_putL {o ci k idx : Nat} {v : Int64} {ty : FieldType} {fs : List Nat} {C : String} {T : u_T} {N : Nat} (hd : decode M.2.1 pc = .ok (.putfield idx, 3)) (ho : wo_lay[o]? = some (.inl (ci, fs))) (hc : vwCl[ci]? = some (C, T, N)) (hk : k < N) (hf : fs[k]? = some 1) (hlk : Cond.fieldLink M.1.cls idx (T k).1 (T k).2.1 (T k).2.2.1 ∈ jj_tb) (hfin : (T k).2.2.2 = false) (hty : parseFieldDescriptor (T k).2.2.1 = some ty) (hn : narrow ty (.long v) = .long v) (hfit : fits ty (.long v) = true) (kk : jj_J K M P (pc + 3) l st (wo_l w o k v)) : jj_J K M P pc l (.long v :: .ref o :: st) w := by
  intro p e s m args below meth c X H locs ls hP hS hl
  refine va_put (Ts := jj_tb) (v := .long v) X.1 X.2.1 X.2.2.2.2.1 (jj_inOk ci _ hc) (jj_tyC ci) (jj_tyOk ci _ hc) (jj_nmOk ci _ hc) X.2.2.2.1 X.2.2.2.2.2.2.2.1 hP (wo_D X.2.2.2.2.2.2.2.2.1) hS o (wo_get ho) hc k hk (X.2.2.2.2.1 _ hlk) (fun _ h => h) hfin hty hn hfit (by simpa using (List.getElem?_eq_some_iff.mp hf).1) hd (fun H1 locs1 hP1 _ hS1 => ?_)
  have e1 : (wo_rz K.1 w).set o (K.1.1 o, .inr (ci, (fs.mapIdx (fun k f => wo_fv K.1.1 w o k f)).set k (.long v))) = wo_rz K.1 (wo_l w o k v) := by
    refine wo_set ho ?_ (fun b h => rfl) (fun b h => wo_l_ne b h)
    show _ = Sum.inr (ci, _)
    congr 2
    apply List.ext_getElem?
    intro i
    rw [List.getElem?_set]
    by_cases h : k = i
    · subst h
      have := (List.getElem?_eq_some_iff.mp hf).1
      rw [if_pos rfl, if_pos (by simpa using this), List.getElem?_mapIdx, hf]
      simp [wo_fv, wo_l]
    · simp only [h, if_false, List.getElem?_mapIdx]
      cases fs[i]? with
      | none => rfl
      | some f =>
        match f with
        | 0 => simp [wo_fv, wo_l, Ne.symm h]
        | 1 => simp [wo_fv, wo_l, Ne.symm h]
        | r + 2 => simp [wo_fv]
  have hP2 : va_P K.1.2.1 vwCl (wo_rz K.1 (wo_l w o k v)) H1 := by rw [← e1]; exact hP1
  exact kk p e s m args below meth c X H1 locs1 ls hP2 hS1 hl
theorem jj_iald {o n b d : Nat} {i : Int32} (hd : decode M.2.1 pc = .ok (.iaload, 1)) (ho : wo_lay[o]? = some (.inr (0, n, b, d))) (hi : vp_in i n) (kk : jj_J K M P (pc + 1) l (.int (w.1 o i.toNatClampNeg) :: st) w) : jj_J K M P pc l (.int i :: .ref o :: st) w := by
  intro p e s m args below meth c X H locs ls hP hS hl
  exact va_iald (f := w.1 o) X.1 X.2.1 X.2.2.2.2.2.2.2.1 hP o 0 (wo_get ho) rfl hi hd (kk p e s m args below meth c X H locs ls hP hS hl)
theorem jj_zald {o n b d : Nat} {i : Int32} (hd : decode M.2.1 pc = .ok (.baload, 1)) (ho : wo_lay[o]? = some (.inr (2, n, b, d))) (hi : vp_in i n) (kk : jj_J K M P (pc + 1) l (.int (w.1 o i.toNatClampNeg) :: st) w) : jj_J K M P pc l (.int i :: .ref o :: st) w := by
  intro p e s m args below meth c X H locs ls hP hS hl
  exact va_zald (f := w.1 o) X.1 X.2.1 X.2.2.2.2.2.2.2.1 hP o 2 (wo_get ho) rfl hi hd (kk p e s m args below meth c X H locs ls hP hS hl)
theorem jj_lald {o n b d : Nat} {i : Int32} (hd : decode M.2.1 pc = .ok (.laload, 1)) (ho : wo_lay[o]? = some (.inr (1, n, b, d))) (hi : vp_in i n) (kk : jj_J K M P (pc + 1) l (.long (w.2 o i.toNatClampNeg) :: st) w) : jj_J K M P pc l (.int i :: .ref o :: st) w := by
  intro p e s m args below meth c X H locs ls hP hS hl
  exact va_lald (f := w.2 o) X.1 X.2.1 X.2.2.2.2.2.2.2.1 hP o 1 (wo_get ho) rfl hi hd (kk p e s m args below meth c X H locs ls hP hS hl)
theorem jj_aald3 {o n b d : Nat} {i : Int32} (hd : decode M.2.1 pc = .ok (.aaload, 1)) (ho : wo_lay[o]? = some (.inr (3, n, b, d))) (hi : vp_in i n) (kk : jj_J K M P (pc + 1) l (.ref (b + d * i.toNatClampNeg) :: st) w) : jj_J K M P pc l (.int i :: .ref o :: st) w := by
  intro p e s m args below meth c X H locs ls hP hS hl
  have hlt : i.toNatClampNeg < n := Nat.not_le.mp fun q => hi (Or.inr q)
  refine va_aldq (C := "LeastFrames$Sheet") X.1 X.2.1 X.2.2.2.2.2.2.2.1 hP o 3 (wo_get ho) rfl hi hd ?_
  rw [if_pos hlt]
  exact kk p e s m args below meth c X H locs ls hP hS hl
theorem jj_aald4 {o n b d : Nat} {i : Int32} (hd : decode M.2.1 pc = .ok (.aaload, 1)) (ho : wo_lay[o]? = some (.inr (4, n, b, d))) (hi : vp_in i n) (kk : jj_J K M P (pc + 1) l (.ref (b + d * i.toNatClampNeg) :: st) w) : jj_J K M P pc l (.int i :: .ref o :: st) w := by
  intro p e s m args below meth c X H locs ls hP hS hl
  have hlt : i.toNatClampNeg < n := Nat.not_le.mp fun q => hi (Or.inr q)
  refine W.aald (v := va_rf (if i.toNatClampNeg < n then some (K.1.1 (b + d * i.toNatClampNeg)) else none)) (ty := .array .long) X.1 X.2.1 (hP o _ (wo_get ho)) ((X.2.2.2.2.2.2.2.1.2 4 _ rfl).1 n (fun j => va_rf (if j < n then some (K.1.1 (b + d * j)) else none))) rfl (fun q => by cases q) (by show ¬ (i < 0 ∨ (arrV _ _ _).slots.size ≤ _); rw [arrV_size]; exact hi) (by show (arrV _ _ _).slots[_]? = _; rw [arrV_read _ _ hlt]) rfl rfl hd ?_
  rw [if_pos hlt]
  exact kk p e s m args below meth c X H locs ls hP hS hl
theorem jj_iast {o n b d : Nat} {i : Int32} {x : Int32} (hd : decode M.2.1 pc = .ok (.iastore, 1)) (ho : wo_lay[o]? = some (.inr (0, n, b, d))) (hi : vp_in i n) (kk : jj_J K M P (pc + 1) l st (wo_i w o i.toNatClampNeg x)) : jj_J K M P pc l (.int x :: .int i :: .ref o :: st) w := by
  intro p e s m args below meth c X H locs ls hP hS hl
  refine va_iast X.1 X.2.1 X.2.2.2.2.2.2.2.1 hP (wo_D X.2.2.2.2.2.2.2.2.1) hS o 0 (wo_get ho) rfl hi hd (fun H1 locs1 hP1 _ hS1 => ?_)
  have hP2 : va_P K.1.2.1 vwCl (wo_rz K.1 (wo_i w o i.toNatClampNeg x)) H1 := by
    rw [← wo_set (w := w) (w' := wo_i w o i.toNatClampNeg x) (e := .inl (K.1.2.2 0, n, .inl (upd (w.1 o) i.toNatClampNeg x))) ho (by simp only [wo_cell, wo_i_at]) (fun b h => wo_i_ne b h) (fun b h => rfl)]
    exact hP1
  exact kk p e s m args below meth c X H1 locs1 ls hP2 hS1 hl
theorem jj_zast {o n b d : Nat} {i : Int32} {x : Int32} (hd : decode M.2.1 pc = .ok (.bastore, 1)) (ho : wo_lay[o]? = some (.inr (2, n, b, d))) (hi : vp_in i n) (kk : jj_J K M P (pc + 1) l st (wo_i w o i.toNatClampNeg (vp_nar .boolean x))) : jj_J K M P pc l (.int x :: .int i :: .ref o :: st) w := by
  intro p e s m args below meth c X H locs ls hP hS hl
  refine va_zast X.1 X.2.1 X.2.2.2.2.2.2.2.1 hP (wo_D X.2.2.2.2.2.2.2.2.1) hS o 2 (wo_get ho) rfl hi hd (fun H1 locs1 hP1 _ hS1 => ?_)
  have hP2 : va_P K.1.2.1 vwCl (wo_rz K.1 (wo_i w o i.toNatClampNeg (vp_nar .boolean x))) H1 := by
    rw [← wo_set (w := w) (w' := wo_i w o i.toNatClampNeg (vp_nar .boolean x)) (e := .inl (K.1.2.2 2, n, .inl (upd (w.1 o) i.toNatClampNeg (vp_nar .boolean x)))) ho (by simp only [wo_cell, wo_i_at]) (fun b h => wo_i_ne b h) (fun b h => rfl)]
    exact hP1
  exact kk p e s m args below meth c X H1 locs1 ls hP2 hS1 hl
theorem jj_last {o n b d : Nat} {i : Int32} {x : Int64} (hd : decode M.2.1 pc = .ok (.lastore, 1)) (ho : wo_lay[o]? = some (.inr (1, n, b, d))) (hi : vp_in i n) (kk : jj_J K M P (pc + 1) l st (wo_l w o i.toNatClampNeg x)) : jj_J K M P pc l (.long x :: .int i :: .ref o :: st) w := by
  intro p e s m args below meth c X H locs ls hP hS hl
  refine va_last X.1 X.2.1 X.2.2.2.2.2.2.2.1 hP (wo_D X.2.2.2.2.2.2.2.2.1) hS o 1 (wo_get ho) rfl hi hd (fun H1 locs1 hP1 _ hS1 => ?_)
  have hP2 : va_P K.1.2.1 vwCl (wo_rz K.1 (wo_l w o i.toNatClampNeg x)) H1 := by
    rw [← wo_set (w := w) (w' := wo_l w o i.toNatClampNeg x) (e := .inl (K.1.2.2 1, n, .inr (.inl (vp_updL (w.2 o) i.toNatClampNeg x)))) ho (by simp only [wo_cell, wo_l_at]) (fun b h => rfl) (fun b h => wo_l_ne b h)]
    exact hP1
  exact kk p e s m args below meth c X H1 locs1 ls hP2 hS1 hl
theorem jj_gsLESSER {idx : Nat} (hd : decode M.2.1 pc = .ok (.getstatic idx, 3)) (hlk : Cond.fieldLink M.1.cls idx "LeastFrames" "LESSER" "[I" ∈ jj_tb) (kk : jj_J K M P (pc + 3) l (.ref 100 :: st) w) : jj_J K M P pc l st w := by
  intro p e s m args below meth c X H locs ls hP hS hl
  exact va_gets X.1 X.2.1 X.2.2.2.2.2.2.2.2.2.1.1 hS X.2.2.2.1 (X.2.2.2.2.1 _ hlk) (fun _ h => h) hd (kk p e s m args below meth c X H locs ls hP hS hl)
theorem jj_gsNLESSER {idx : Nat} (hd : decode M.2.1 pc = .ok (.getstatic idx, 3)) (hlk : (M.1.cls, idx, "LeastFrames", "LESSER", "[I", "LeastFrames") ∈ wo_nF) (kk : jj_J K M P (pc + 3) l (.ref 100 :: st) w) : jj_J K M P pc l st w := by
  intro p e s m args below meth c X H locs ls hP hS hl
  exact va_getsN X.1 X.2.1 X.2.2.2.2.2.2.2.2.2.1.1 hS X.2.2.2.1 (va_Nw.use rfl (X.2.2.2.2.2.2.2.2.2.2.1 _ hlk)) (fun _ h => h) hd (kk p e s m args below meth c X H locs ls hP hS hl)
theorem jj_saldLESSER {i : Int32} (hd : decode M.2.1 pc = .ok (.iaload, 1)) (hi : vp_in i 10) (kk : jj_J K M P (pc + 1) l (.int (wo_les i.toNatClampNeg) :: st) w) : jj_J K M P pc l (.int i :: .ref 100 :: st) w := by
  intro p e s m args below meth c X H locs ls hP hS hl
  have hlt : i.toNatClampNeg < 10 := Nat.not_le.mp fun q => hi (Or.inr q)
  obtain ⟨cell, q1, q2, q3, q4, q5, q6, q7⟩ := X.2.2.2.2.2.2.2.2.2.1.2.1
  have hc : H[K.1.1 100]? = some cell := by rw [hS.2.1 _ (Array.getElem?_eq_some_iff.mp q1).1 q7]; exact q1
  exact W.iald X.1 X.2.1 hc q2 q3 (fun q => hi (q.elim Or.inl (fun q => Or.inr (Nat.le_trans q4 q)))) (q6 _ hlt) rfl rfl hd (kk p e s m args below meth c X H locs ls hP hS hl)
theorem jj_gsGREATER {idx : Nat} (hd : decode M.2.1 pc = .ok (.getstatic idx, 3)) (hlk : Cond.fieldLink M.1.cls idx "LeastFrames" "GREATER" "[I" ∈ jj_tb) (kk : jj_J K M P (pc + 3) l (.ref 101 :: st) w) : jj_J K M P pc l st w := by
  intro p e s m args below meth c X H locs ls hP hS hl
  exact va_gets X.1 X.2.1 X.2.2.2.2.2.2.2.2.2.1.2.2.1 hS X.2.2.2.1 (X.2.2.2.2.1 _ hlk) (fun _ h => h) hd (kk p e s m args below meth c X H locs ls hP hS hl)
theorem jj_gsNGREATER {idx : Nat} (hd : decode M.2.1 pc = .ok (.getstatic idx, 3)) (hlk : (M.1.cls, idx, "LeastFrames", "GREATER", "[I", "LeastFrames") ∈ wo_nF) (kk : jj_J K M P (pc + 3) l (.ref 101 :: st) w) : jj_J K M P pc l st w := by
  intro p e s m args below meth c X H locs ls hP hS hl
  exact va_getsN X.1 X.2.1 X.2.2.2.2.2.2.2.2.2.1.2.2.1 hS X.2.2.2.1 (va_Nw.use rfl (X.2.2.2.2.2.2.2.2.2.2.1 _ hlk)) (fun _ h => h) hd (kk p e s m args below meth c X H locs ls hP hS hl)
theorem jj_saldGREATER {i : Int32} (hd : decode M.2.1 pc = .ok (.iaload, 1)) (hi : vp_in i 10) (kk : jj_J K M P (pc + 1) l (.int (wo_gre i.toNatClampNeg) :: st) w) : jj_J K M P pc l (.int i :: .ref 101 :: st) w := by
  intro p e s m args below meth c X H locs ls hP hS hl
  have hlt : i.toNatClampNeg < 10 := Nat.not_le.mp fun q => hi (Or.inr q)
  obtain ⟨cell, q1, q2, q3, q4, q5, q6, q7⟩ := X.2.2.2.2.2.2.2.2.2.1.2.2.2
  have hc : H[K.1.1 101]? = some cell := by rw [hS.2.1 _ (Array.getElem?_eq_some_iff.mp q1).1 q7]; exact q1
  exact W.iald X.1 X.2.1 hc q2 q3 (fun q => hi (q.elim Or.inl (fun q => Or.inr (Nat.le_trans q4 q)))) (q6 _ hlt) rfl rfl hd (kk p e s m args below meth c X H locs ls hP hS hl)
theorem jj_iret {v : Int32} {R : Int32 → wo_T → Prop} (hd : decode M.2.1 pc = .ok (.ireturn, 1)) (hr : M.2.2.2.1 = some .int) (h : R v w) : jj_J K M (fun r w => ∃ v, r = some (.int v) ∧ R v w) pc l [.int v] w := by
  intro p e s m args below meth c X H locs ls hP hS hl
  have hlocks := X.2.2.2.2.2.2.1
  exact W.iret (v := v) X.1 X.2.1 (X.2.2.2.2.2.1.trans hr) (fun t ht hW => ⟨⟨some (.int v), w, rfl, ⟨v, rfl, h⟩, by rw [ht]; exact hP⟩, hS.F ht⟩) hS.2.2 hd
theorem jj_zret {v : Int32} {R : Int32 → wo_T → Prop} (hd : decode M.2.1 pc = .ok (.ireturn, 1)) (hr : M.2.2.2.1 = some .boolean) (hv : v = 0 ∨ v = 1) (h : R v w) : jj_J K M (fun r w => ∃ v, r = some (.int v) ∧ R v w) pc l [.int v] w := by
  intro p e s m args below meth c X H locs ls hP hS hl
  have hlocks := X.2.2.2.2.2.2.1
  exact W.zret (v := v) X.1 X.2.1 (X.2.2.2.2.2.1.trans hr) (by rcases hv with rfl | rfl <;> rfl) (fun t ht hW => ⟨⟨some (.int v), w, rfl, ⟨v, rfl, h⟩, by rw [ht]; exact hP⟩, hS.F ht⟩) hS.2.2 hd
theorem jj_lret {v : Int64} {R : Int64 → wo_T → Prop} (hd : decode M.2.1 pc = .ok (.lreturn, 1)) (hr : M.2.2.2.1 = some .long) (h : R v w) : jj_J K M (fun r w => ∃ v, r = some (.long v) ∧ R v w) pc l [.long v] w := by
  intro p e s m args below meth c X H locs ls hP hS hl
  have hlocks := X.2.2.2.2.2.2.1
  exact W.lret (v := v) X.1 X.2.1 (X.2.2.2.2.2.1.trans hr) (fun t ht hW => ⟨⟨some (.long v), w, rfl, ⟨v, rfl, h⟩, by rw [ht]; exact hP⟩, hS.F ht⟩) hS.2.2 hd
theorem jj_vret {R : wo_T → Prop} (hd : decode M.2.1 pc = .ok (.return_, 1)) (hr : M.2.2.2.1 = none) (h : R w) : jj_J K M (fun r w => r = none ∧ R w) pc l [] w := by
  intro p e s m args below meth c X H locs ls hP hS hl
  have hlocks := X.2.2.2.2.2.2.1
  exact W.vret X.1 X.2.1 (X.2.2.2.2.2.1.trans hr) (fun t ht hW => ⟨⟨none, w, rfl, ⟨rfl, h⟩, by rw [ht]; exact hP⟩, hS.F ht⟩) hS.2.2 hd
/-- behind a call -/
theorem jj_after {R : Option Value → wo_T → Prop} {p : Program} {e : Env} {s : State} {m : MethodId} {args : Array Value} {below : List Frame} {meth : Method} {c : Code} {H : Heap} {locs : List Loc} {ls : Array Slot} {st0 : List Value} {a : Array Value} (X : jj_X K M p s m args meth c) (hS : va_S (wo_A K.1) s.heap H locs) (hl : lv_has ls M.2.2.1 (jj_lm K l))
    (hr : va_Run p K.2 e (jj_rm M) s m args below meth c H locs 0 0 0 0 (F0 m pc ls st0) (st.map (wo_mv K.1.1)) (jj_Q K.1 R a) (wo_A K.1)) (k : ∀ r w1, R r w1 → jj_J K M P (pc + 3) l (r.toList ++ st) w1) :
    W p K.2 e (jj_rm M) s m args below meth c H locs 0 0 (MQ below (jj_Q K.1 P) args s 0 0 (wo_A K.1)) (F0 m pc ls st0) := by
  intro T hT Y
  obtain ⟨v, st₀, t, T', L, h0, X', hL, e1, e2, ⟨⟨r, w1, hv, hp, hb⟩, hz, hk⟩, st'⟩ := hr T hT Y
  have hv' : v = r.map (wo_mv K.1.1) := by cases hv; rfl
  rw [h0] at hz hk
  have hst : v.toList ++ st.map (wo_mv K.1.1) = (r.toList ++ st).map (wo_mv K.1.1) := by
    rw [hv']
    cases r <;> simp
  obtain ⟨t2, a1, b1⟩ := k r w1 hp p e s m args below meth c X T'.heap (locs ++ L) ls (by rw [e1]; exact hb)
    ⟨Nat.le_trans hS.1 (by rw [e1]; exact hz), fun q h1 h2 => by rw [e1, hk q (Nat.lt_of_lt_of_le h1 hS.1) h2]; exact hS.2.1 q h1 h2, fun q hq => by
      rcases List.mem_append.mp hq with h | h
      · exact hS.2.2 q h
      · exact hL q h⟩ hl T' rfl X'
  refine ⟨t2, st' t2 ?_, b1⟩
  rw [hst]
  exact a1
theorem jj_cats (ad : Nat → Nat) (st : List Value) : ((st.map (wo_mv ad)).map fun v => v.category).sum = (st.map fun v => v.category).sum := by
  induction st with
  | nil => rfl
  | cons v vs ih => simp only [List.map_cons, List.sum_cons, wo_mv_cat] at ih ⊢; rw [ih]
theorem jj_gin (M N : jj_M) (h : Cond.code N.1 N.2.1 N.2.2.1 N.2.2.2.1 ∈ jj_tb) : GoodIn jj_tb (jj_ws N) := by
  intro w hw
  rcases List.mem_cons.mp hw with rfl | hw
  · exact ⟨h, good_of_word (jj_good _ h)⟩
  · exact ⟨hw, good_of_word (jj_good _ hw)⟩
/-- what a call of an instance method asks of the tables -/
def jj_V (N : jj_M) (n : Nat) : Prop := Cond.instanceMethod N.1 ∈ jj_tb ∧ Cond.selects N.1.cls N.1 N.1 ∈ jj_tb ∧ Cond.initialized N.1.cls ∈ jj_tb ∧ Cond.code N.1 N.2.1 N.2.2.1 N.2.2.2.1 ∈ jj_tb ∧ (N.1.cls ≠ "java/lang/invoke/MethodHandle" ∧ N.1.cls ≠ "java/lang/invoke/VarHandle" ∧ (parseMethodDescriptor N.1.desc).map (fun d => d.parameters.length) = some n)
def jj_U (N : jj_M) (n : Nat) : Prop := Cond.static N.1 ∈ jj_tb ∧ Cond.initialized N.1.cls ∈ jj_tb ∧ Cond.code N.1 N.2.1 N.2.2.1 N.2.2.2.1 ∈ jj_tb ∧ (N.1.cls ≠ "java/lang/invoke/MethodHandle" ∧ N.1.cls ≠ "java/lang/invoke/VarHandle" ∧ (parseMethodDescriptor N.1.desc).map (fun d => d.parameters.length) = some n)
/-- its frames and locals fit -/
def jj_fit (M N : jj_M) (st : List Value) : Bool := Nat.ble (N.2.2.2.2.1 + 1) M.2.2.2.2.1 && Nat.ble (8 + (N.2.2.1 + 11) + N.2.2.2.2.2) M.2.2.2.2.2 && Nat.ble (st.map fun v => v.category).sum 8
theorem jj_fit_spec {M N : jj_M} {st : List Value} (h : jj_fit M N st = true) : N.2.2.2.2.1 + 1 ≤ M.2.2.2.2.1 ∧ 8 + (N.2.2.1 + 11) + N.2.2.2.2.2 ≤ M.2.2.2.2.2 ∧ (st.map fun v => v.category).sum ≤ 8 := by
  simp only [jj_fit, Bool.and_eq_true] at h
  exact ⟨Nat.le_of_ble_eq_true h.1.1, Nat.le_of_ble_eq_true h.1.2, Nat.le_of_ble_eq_true h.2⟩
theorem jj_callV {N : jj_M} {as st0 : List Value} {b ci idx : Nat} {fs : List Nat} {q : vw_C} {R : Option Value → wo_T → Prop} (hd : decode M.2.1 pc = .ok (.invokevirtual idx, 3)) (hb : wo_lay[b]? = some (.inl (ci, fs))) (hc : vwCl[ci]? = some q) (hq : q.1 = N.1.cls) (hlk : Cond.methodLink M.1.cls idx N.1 ∈ jj_tb) (hV : jj_V N as.length) (hf : jj_fit M N st = true) (hs : st0 = as.reverse ++ .ref b :: st)
    (hC : jj_C K N (.ref b :: as) w R) (k : ∀ r w1, R r w1 → jj_J K M P (pc + 3) l (r.toList ++ st) w1) : jj_J K M P pc l st0 w := by
  intro p e s m args below meth c X H locs ls hP hS hl
  obtain ⟨v1, v2, v3, v4, v5⟩ := hV
  obtain ⟨f1, f2, f3⟩ := jj_fit_spec hf
  have hts := X.2.2.2.2.1
  have hre := va_recv X.2.2.2.2.2.2.2.1 hP hc (wo_get (g := K.1) (w := w) hb)
  rw [hq] at hre
  refine jj_after X hS hl (va_runV (C := N.1.cls) (b := K.1.1 b) (As := as.map (wo_mv K.1.1)) (n := as.length) (Ts := jj_tb) (index := idx) (mc := 0) (ms := 0) ⟨X.1, X.2.1, X.2.2.1, X.2.2.2.1, hts⟩ hC ⟨callB_of as.length hts (jj_gin M N v4) rfl rfl rfl (hts _ v3) (hts _ hlk) v5 ⟨f1, f2⟩, hts _ v1, hts _ v2⟩ ⟨jj_blind _ _ _, hre, fun U hU hW => jj_at X hP hS (.ref b :: as) U hU hW⟩ rfl (by simp) hl.1 (by rw [hs]; simp [wo_mv]) ?_ hd ⟨Nat.le_refl _, Nat.le_refl _⟩) k
  show 2 * 0 + _ ≤ 8
  rw [jj_cats]
  omega
theorem jj_callS {N : jj_M} {as st0 : List Value} {idx : Nat} {R : Option Value → wo_T → Prop} (hd : decode M.2.1 pc = .ok (.invokestatic idx, 3)) (hlk : Cond.methodLink M.1.cls idx N.1 ∈ jj_tb) (hV : jj_U N as.length) (hf : jj_fit M N st = true) (hs : st0 = as.reverse ++ st)
    (hC : jj_C K N as w R) (k : ∀ r w1, R r w1 → jj_J K M P (pc + 3) l (r.toList ++ st) w1) : jj_J K M P pc l st0 w := by
  intro p e s m args below meth c X H locs ls hP hS hl
  obtain ⟨v1, v3, v4, v5⟩ := hV
  obtain ⟨f1, f2, f3⟩ := jj_fit_spec hf
  have hts := X.2.2.2.2.1
  refine jj_after X hS hl (va_runS (As := as.map (wo_mv K.1.1)) (n := as.length) (Ts := jj_tb) (index := idx) (mc := 0) (ms := 0) ⟨X.1, X.2.1, X.2.2.1, X.2.2.2.1, hts⟩ hC ⟨callB_of as.length hts (jj_gin M N v4) rfl rfl rfl (hts _ v3) (hts _ hlk) v5 ⟨f1, f2⟩, hts _ v1⟩ ⟨jj_blind _ _ _, fun U hU hW => jj_at X hP hS as U hU hW⟩ rfl (by simp) hl.1 (by rw [hs]; simp) ?_ hd ⟨Nat.le_refl _, Nat.le_refl _⟩) k
  show 2 * 0 + _ ≤ 8
  rw [jj_cats]
  omega
end

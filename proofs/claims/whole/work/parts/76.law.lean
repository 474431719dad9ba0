/-! THE CLAIM OUT OF ONE WALK OF THE LAW'S BODY. Your part is whole_start (and what it stands on); all else here is the same for every law, but numbers. -/
def R_law : String := "LeastFramesLaw"
def lw_P (b : Addr) (xs : List Int32) (args : Array Value) (s : State) : Prop := args = #[.ref b] ∧ s.IntsAt b xs ∧ xs.length ≤ 3072 ∧ (Jvm.Cond.and given_1 narrow_1).before args s = true
def lw_Q (_ : Array Value) (s : State) (o : Outcome) (t : State) : Prop := o = .returned (some (.int 1)) ∧ Framed s o t [] 600000 7302250
def lw_Z (below : List Frame) (a : Array Value) (s : State) : State → Prop := fun t => ∃ o, t.status = .running ∧ Ended t below o ∧ lw_Q a s o t
/-- the law's own end, with 1 on the stack, nothing written that was there before, its room as the claim has it -/
theorem lw_ret {p : Program} {l : Launch} {e : Env} {s : State} {m : MethodId} {below : List Frame} {meth : Method} {c : Code} {b : Nat} (hx : p.tables.exec = Jvm.exec) (hb : c.code = code) (hr : meth.sig.returnType = ret) (hlocks : meth.locks = false) {pc : Nat} {H : Heap} {ls : Array Slot} (hdg : decode code pc = .ok (.ireturn, 1)) : W p l e room_1 s m #[Value.ref b] below meth c H [] 600000 7302250 (lw_Z below #[Value.ref b] s) (F0 m pc ls [.int 1]) := by
  intro T hT X
  obtain ⟨fs, hret, hrun, hended, hW, hframe⟩ := X.leave (v := some (.int 1)) (hlocks := hlocks) (fun h => by rw [hr] at h; cases h)
  have hmeth' : T.vm.method? m = some meth := X.method'
  refine ⟨T.setFrames fs, ?_, .returned (some (.int 1)), hrun, hended, rfl, ⟨_, rfl⟩, hW, hframe⟩
  jvm_step X.here [X.here.top, hx, hb, hdg, hmeth', hr, ret, narrow_b1]
  (try refine ⟨rfl, ?_⟩); (try refine ⟨rfl, ?_⟩)
  first | (intro acts; rw [hret _ acts rfl rfl rfl]) | rw [hret _ _ rfl rfl rfl]
  exact Steps.refl _
/-- what holds at the law's entry: the machine, the code, the tables' words (any of lw_tbl by 'hts w (by decide +kernel)'), the script of L ints xs at the cell b, what the Statement gives of the start (any of its parts by flat_of_before) -/
def lw_At (p : Program) (s : State) (m : MethodId) (meth : Method) (c : Code) (b L : Nat) (xs : Nat → Int32) : Prop :=
  p.tables.exec = Jvm.exec ∧ c.code = code ∧ meth.sig.returnType = ret ∧ c.maxLocals = 4 ∧ s.vm.findClass R_law = some m.cls ∧ (∀ w ∈ lw_tbl, w.before #[Value.ref b] s = true) ∧ va_X b L xs s s.heap ∧ b < s.heap.size ∧ meth.locks = false ∧ (Jvm.Cond.and given_1 narrow_1).before #[Value.ref b] s = true
/-! ===== the law between calls ===== -/
def ll_X (K : jj_K) (b L : Nat) (xs : Nat → Int32) (p : Program) (s : State) (m : MethodId) (meth : Method) (c : Code) : Prop :=
  p.tables.exec = Jvm.exec ∧ c.code = code ∧ c.maxLocals = 4 ∧ s.vm.findClass RL = some m.cls ∧ (∀ w ∈ jj_tb, w.before #[Value.ref b] s = true) ∧ meth.sig.returnType = ret ∧ meth.locks = false ∧ wo_S K.1 s ∧ (∀ o, o < 73 → s.heap.size ≤ K.1.1 o) ∧ K.1.1 200 = b ∧ va_X b L xs s s.heap ∧ b < s.heap.size
def ll_J (K : jj_K) (b L : Nat) (xs : Nat → Int32) (pc : Nat) (l : List (Nat × Value)) (st : List Value) (w : wo_T) : Prop :=
  ∀ (p : Program) (e : Env) (s : State) (m : MethodId) (below : List Frame) (meth : Method) (c : Code), ll_X K b L xs p s m meth c →
    ∀ (H : Heap) (locs : List Loc) (ls : Array Slot), va_P K.1.2.1 vwCl (wo_rz K.1 w) H → va_S (fun q => s.heap.size ≤ q) s.heap H locs → lv_has ls 4 (jj_lm K l) →
      W p K.2 e room_1 s m #[Value.ref b] below meth c H locs 600000 7302250 (lw_Z below #[Value.ref b] s) (F0 m pc ls (st.map (wo_mv K.1.1)))
section
variable {K : jj_K} {b L : Nat} {xs : Nat → Int32} {pc : Nat} {l : List (Nat × Value)} {st : List Value} {w : wo_T}
theorem ll_aload {n : Fin 4} {x : Nat} (hd : decode code pc = .ok (.aload_n n, 1)) (i : Nat) (h : l[i]? = some ((n : Nat), .ref x)) (k : ll_J K b L xs (pc + 1) l (.ref x :: st) w) : ll_J K b L xs pc l st w := by
  intro p e s m below meth c X H locs ls hP hS hl
  exact lv_aload_n X.1 X.2.1 hd rfl (jj_loc hl h) (k p e s m below meth c X H locs ls hP hS hl)
theorem ll_iload {n : Fin 4} {x : Int32} (hd : decode code pc = .ok (.iload_n n, 1)) (i : Nat) (h : l[i]? = some ((n : Nat), .int x)) (k : ll_J K b L xs (pc + 1) l (.int x :: st) w) : ll_J K b L xs pc l st w := by
  intro p e s m below meth c X H locs ls hP hS hl
  exact lv_iload_n X.1 X.2.1 hd rfl (jj_loc hl h) (k p e s m below meth c X H locs ls hP hS hl)
theorem ll_iconst {n : Int} {v : Int32} (hd : decode code pc = .ok (.iconst n, 1)) (hv : Int32.ofInt n = v) (k : ll_J K b L xs (pc + 1) l (.int v :: st) w) : ll_J K b L xs pc l st w := by
  intro p e s m below meth c X H locs ls hP hS hl
  exact lv_iconst X.1 X.2.1 hd hv (k p e s m below meth c X H locs ls hP hS hl)
theorem ll_bipush {n : Int} {v : Int32} (hd : decode code pc = .ok (.bipush n, 2)) (hv : (Int8.ofInt n).toInt32 = v) (k : ll_J K b L xs (pc + 2) l (.int v :: st) w) : ll_J K b L xs pc l st w := by
  intro p e s m below meth c X H locs ls hP hS hl
  exact lv_bipush X.1 X.2.1 hd hv (k p e s m below meth c X H locs ls hP hS hl)
theorem ll_iadd {x y : Int32} (hd : decode code pc = .ok (.iadd, 1)) (k : ll_J K b L xs (pc + 1) l (.int (x + y) :: st) w) : ll_J K b L xs pc l (.int y :: .int x :: st) w := by
  intro p e s m below meth c X H locs ls hP hS hl
  exact lv_iadd X.1 X.2.1 hd (k p e s m below meth c X H locs ls hP hS hl)
theorem ll_isub {x y : Int32} (hd : decode code pc = .ok (.isub, 1)) (k : ll_J K b L xs (pc + 1) l (.int (x - y) :: st) w) : ll_J K b L xs pc l (.int y :: .int x :: st) w := by
  intro p e s m below meth c X H locs ls hP hS hl
  exact lv_isub X.1 X.2.1 hd (k p e s m below meth c X H locs ls hP hS hl)
theorem ll_iand {x y : Int32} (hd : decode code pc = .ok (.iand, 1)) (k : ll_J K b L xs (pc + 1) l (.int (x &&& y) :: st) w) : ll_J K b L xs pc l (.int y :: .int x :: st) w := by
  intro p e s m below meth c X H locs ls hP hS hl
  exact lv_iand X.1 X.2.1 hd (k p e s m below meth c X H locs ls hP hS hl)
theorem ll_goto {off : Int} {tgt : Nat} (hd : decode code pc = .ok (.goto off, 3)) (ht : (pc : Int) + off = (tgt : Int)) (k : ll_J K b L xs tgt l st w) : ll_J K b L xs pc l st w := by
  intro p e s m below meth c X H locs ls hP hS hl
  exact lv_goto X.1 X.2.1 hd ht (k p e s m below meth c X H locs ls hP hS hl)
theorem ll_iinc {n : Nat} {z : Int} {x v : Int32} {l2 : List (Nat × Value)} (hd : decode code pc = .ok (.iinc n z, 3)) (i : Nat) (hi : l[i]? = some (n, .int x)) (hv : x + Int32.ofInt z = v) (hn : n < 4) (h : (n, Value.int v) :: l.filter (fun q => !(q.1 == n) && !(q.1 + 1 == n && q.2.category == 2)) = l2) (k : ll_J K b L xs (pc + 3) l2 st w) : ll_J K b L xs pc l st w := by
  intro p e s m below meth c X H locs ls hP hS hl
  exact lv_iinc (lv := jj_lm K l) (lv' := jj_lm K l2) (k := i) (x := x) X.1 X.2.1 hd hl (by simp [jj_lm, hi, wo_mv]) hv hn (by subst h; exact congrArg (List.cons (n, wo_mv K.1.1 (.int v))) (jj_fil K l (fun a b => !(a == n) && !(a + 1 == n && b == 2)))) (fun ls hl => k p e s m below meth c X H locs ls hP hS hl)
theorem ll_sld {i : Nat} (hi : i < L) (hL : L ≤ 3072) (hd : decode code pc = .ok (.iaload, 1)) (k : ll_J K b L xs (pc + 1) l (.int (xs i) :: st) w) : ll_J K b L xs pc l (.int (nI i) :: .ref 200 :: st) w := by
  intro p e s m below meth c X H locs ls hP hS hl
  have hb := X.2.2.2.2.2.2.2.2.2.1
  have hX := X.2.2.2.2.2.2.2.2.2.2.1
  have hbl := X.2.2.2.2.2.2.2.2.2.2.2
  have := k p e s m below meth c X H locs ls hP hS hl
  simp only [List.map_cons, wo_mv] at this ⊢
  rw [hb]
  refine va_sld X.1 X.2.1 hX hbl (Nat.not_le.mpr hbl) hS (nn_inn hi (by omega)) hd ?_
  rw [nI_clamp (by omega)]
  exact this
theorem ll_slen (hd : decode code pc = .ok (.arraylength, 1)) (k : ll_J K b L xs (pc + 1) l (.int (nI L) :: st) w) : ll_J K b L xs pc l (.ref 200 :: st) w := by
  intro p e s m below meth c X H locs ls hP hS hl
  have hb := X.2.2.2.2.2.2.2.2.2.1
  have hX := X.2.2.2.2.2.2.2.2.2.2.1
  have hbl := X.2.2.2.2.2.2.2.2.2.2.2
  have := k p e s m below meth c X H locs ls hP hS hl
  simp only [List.map_cons, wo_mv] at this ⊢
  rw [hb]
  exact va_slen X.1 X.2.1 hX hbl (Nat.not_le.mpr hbl) hS hd this
theorem ll_icmpgt {x y : Int32} {off : Int} {tgt : Nat} (hd : decode code pc = .ok (.if_icmp .gt off, 3)) (ht : (pc : Int) + off = (tgt : Int)) (k1 : y < x → ll_J K b L xs tgt l st w) (k0 : ¬ y < x → ll_J K b L xs (pc + 3) l st w) : ll_J K b L xs pc l (.int y :: .int x :: st) w := by
  intro p e s m below meth c X H locs ls hP hS hl
  exact lv_icmp_gt X.1 X.2.1 hd ht (fun q => k1 q p e s m below meth c X H locs ls hP hS hl) (fun q => k0 q p e s m below meth c X H locs ls hP hS hl)
theorem ll_icmpeq {x y : Int32} {off : Int} {tgt : Nat} (hd : decode code pc = .ok (.if_icmp .eq off, 3)) (ht : (pc : Int) + off = (tgt : Int)) (he : x = y) (k : ll_J K b L xs tgt l st w) : ll_J K b L xs pc l (.int y :: .int x :: st) w := by
  intro p e s m below meth c X H locs ls hP hS hl
  exact lv_icmp_eq X.1 X.2.1 hd ht (fun _ => k p e s m below meth c X H locs ls hP hS hl) (fun q => absurd he q)
theorem ll_lcmpeq {x y : Int64} {off : Int} {tgt : Nat} (hd : decode code pc = .ok (.lcmp, 1)) (hd2 : decode code (pc + 1) = .ok (.ifCond .eq off, 3)) (ht : ((pc + 1 : Nat) : Int) + off = (tgt : Int)) (he : x = y) (k : ll_J K b L xs tgt l st w) : ll_J K b L xs pc l (.long y :: .long x :: st) w := by
  intro p e s m below meth c X H locs ls hP hS hl
  refine W.lcmp X.1 X.2.1 hd ?_
  have e0 : lg_cmp x y = 0 := by subst he; simp [lg_cmp]
  exact lv_if_eq X.1 X.2.1 hd2 ht (fun _ => k p e s m below meth c X H locs ls hP hS hl) (fun q => absurd e0 q)
theorem ll_swIn {dflt lo hi : Int} {offs : Array Int} {len : Nat} {x : Int32} {off : Int} {tgt : Nat} (hd : decode code pc = .ok (.tableswitch dflt lo hi offs, len)) (h1 : ¬ x.toInt < lo) (h2 : ¬ hi < x.toInt) (ho : offs[(x.toInt - lo).toNat]? = some off) (ht : (pc : Int) + off = (tgt : Int)) (k : ll_J K b L xs tgt l st w) : ll_J K b L xs pc l (.int x :: st) w := by
  intro p e s m below meth c X H locs ls hP hS hl
  exact lv_tableIn X.1 X.2.1 hd h1 h2 ho ht (k p e s m below meth c X H locs ls hP hS hl)
theorem ll_swOut {dflt lo hi : Int} {offs : Array Int} {len : Nat} {x : Int32} {tgt : Nat} (hd : decode code pc = .ok (.tableswitch dflt lo hi offs, len)) (h : x.toInt < lo ∨ hi < x.toInt) (ht : (pc : Int) + dflt = (tgt : Int)) (k : ll_J K b L xs tgt l st w) : ll_J K b L xs pc l (.int x :: st) w := by
  intro p e s m below meth c X H locs ls hP hS hl
  exact lv_tableOut X.1 X.2.1 hd h ht (k p e s m below meth c X H locs ls hP hS hl)
theorem ll_ret (hd : decode code pc = .ok (.ireturn, 1)) : ll_J K b L xs pc l [.int 1] w := by
  intro p e s m below meth c X H locs ls hP hS hl
  refine va_forget hS.2.2 ?_
  exact lw_ret X.1 X.2.1 X.2.2.2.2.2.1 X.2.2.2.2.2.2.1 hd
theorem ll_at {p : Program} {s : State} {m : MethodId} {meth : Method} {c : Code} {H : Heap} {locs : List Loc} (X : ll_X K b L xs p s m meth c) (hP : va_P K.1.2.1 vwCl (wo_rz K.1 w) H) (hS : va_S (fun q => s.heap.size ≤ q) s.heap H locs) (as : List Value) : ∀ U : State, U.heap = H → s.WarmedH U.vm → jj_P K.1 as w (as.map (wo_mv K.1.1)).toArray U := by
  intro U hU hW
  obtain ⟨hK, hd, hst, hn⟩ := X.2.2.2.2.2.2.2.1
  refine ⟨rfl, by rw [hU]; exact hP, hK.moved hW.alike, hd, ?_, wo_nest_warm hW hn⟩
  rw [hU]
  exact wo_st_kept (wo_st_moved hW.alike hst) (fun a ha _ => hS.2.1 a ha (Nat.not_le.mpr ha))
theorem ll_call {N : jj_M} {as st0 : List Value} {ob ci idx : Nat} {fs : List Nat} {q : vw_C} {R : Option Value → wo_T → Prop} (hd : decode code pc = .ok (.invokevirtual idx, 3)) (hb : wo_lay[ob]? = some (.inl (ci, fs))) (hc : vwCl[ci]? = some q) (hq : q.1 = N.1.cls) (hlk : Cond.methodLink RL idx N.1 ∈ jj_tb) (hV : jj_V N as.length) (hf : N.2.2.2.2.1 + 1 ≤ 14) (hlo : 8 + (N.2.2.1 + 11) + N.2.2.2.2.2 ≤ 558) (hst : (st.map fun v => v.category).sum ≤ 8) (hs : st0 = as.reverse ++ .ref ob :: st)
    (hC : jj_C K N (.ref ob :: as) w R) (k : ∀ r w1, R r w1 → ll_J K b L xs (pc + 3) l (r.toList ++ st) w1) : ll_J K b L xs pc l st0 w := by
  intro p e s m below meth c X H locs ls hP hS hl
  obtain ⟨v1, v2, v3, v4, v5⟩ := hV
  have hts := X.2.2.2.2.1
  have hre := va_recv X.2.2.2.2.2.2.2.1.1 hP hc (wo_get (g := K.1) (w := w) hb)
  rw [hq] at hre
  have hgin : GoodIn jj_tb (jj_ws N) := jj_gin N N v4
  have hrun := va_runV (C := N.1.cls) (b := K.1.1 ob) (As := as.map (wo_mv K.1.1)) (n := as.length) (Ts := jj_tb) (index := idx) (mc := 0) (ms := 0) (R := room_1) (below := below) (meth := meth) (locs := locs) (cells := 600000) (slots := 7302250) (e := e) (l := K.2) (g := F0 m pc ls (st0.map (wo_mv K.1.1))) (rest := st.map (wo_mv K.1.1)) (H := H) (args := #[Value.ref b]) ⟨X.1, X.2.1, X.2.2.1, X.2.2.2.1, hts⟩ hC ⟨callB_of as.length hts hgin rfl rfl rfl (hts _ v3) (hts _ hlk) v5 ⟨hf, hlo⟩, hts _ v1, hts _ v2⟩ ⟨jj_blind _ _ _, hre, fun U hU hW => ll_at X hP hS (.ref ob :: as) U hU hW⟩ rfl (by simp) hl.1 (by rw [hs]; simp [wo_mv, F0]) (by show 2 * 0 + _ ≤ 8; rw [jj_cats]; omega) hd ⟨Nat.le_of_ble_eq_true rfl, Nat.le_of_ble_eq_true rfl⟩
  intro T hT Y
  obtain ⟨v, st₀, t, T', LL, h0, X', hL, e1, e2, ⟨⟨r, w1, hv, hp, hb'⟩, hz, hk⟩, st'⟩ := hrun T hT Y
  have hv' : v = r.map (wo_mv K.1.1) := by cases hv; rfl
  rw [h0] at hz hk
  have hgA : ∀ x, wo_A K.1 x → s.heap.size ≤ x := fun x hx => by
    obtain ⟨o, ho, rfl⟩ := hx
    exact X.2.2.2.2.2.2.2.2.1 o ho
  have hst' : v.toList ++ st.map (wo_mv K.1.1) = (r.toList ++ st).map (wo_mv K.1.1) := by
    rw [hv']
    cases r <;> simp
  obtain ⟨t2, a1, b1⟩ := k r w1 hp p e s m below meth c X T'.heap (locs ++ LL) ls (by rw [e1]; exact hb')
    ⟨Nat.le_trans hS.1 (by rw [e1]; exact hz), fun q h1 h2 => by rw [e1, hk q (Nat.lt_of_lt_of_le h1 hS.1) (fun z => h2 (hgA q z))]; exact hS.2.1 q h1 h2, fun q hq => by
      rcases List.mem_append.mp hq with h | h
      · exact hS.2.2 q h
      · exact hgA _ (hL q h)⟩ hl T' rfl X'
  refine ⟨t2, st' t2 ?_, b1⟩
  rw [hst']
  exact a1
theorem ll_calli {N : jj_M} {as st0 : List Value} {ob ci idx : Nat} {fs : List Nat} {q : vw_C} {R : Int32 → wo_T → Prop} (hd : decode code pc = .ok (.invokevirtual idx, 3)) (hb : wo_lay[ob]? = some (.inl (ci, fs))) (hc : vwCl[ci]? = some q) (hq : q.1 = N.1.cls) (hlk : Cond.methodLink RL idx N.1 ∈ jj_tb) (hV : jj_V N as.length) (hf : N.2.2.2.2.1 + 1 ≤ 14) (hlo : 8 + (N.2.2.1 + 11) + N.2.2.2.2.2 ≤ 558) (hst : (st.map fun v => v.category).sum ≤ 8) (hs : st0 = as.reverse ++ .ref ob :: st)
    (hC : jj_Ci K N (.ref ob :: as) w R) (k : ∀ v w1, R v w1 → ll_J K b L xs (pc + 3) l (.int v :: st) w1) : ll_J K b L xs pc l st0 w := ll_call hd hb hc hq hlk hV hf hlo hst hs hC (fun r w1 h => by obtain ⟨v, rfl, h⟩ := h; exact k v w1 h)
theorem ll_calll {N : jj_M} {as st0 : List Value} {ob ci idx : Nat} {fs : List Nat} {q : vw_C} {R : Int64 → wo_T → Prop} (hd : decode code pc = .ok (.invokevirtual idx, 3)) (hb : wo_lay[ob]? = some (.inl (ci, fs))) (hc : vwCl[ci]? = some q) (hq : q.1 = N.1.cls) (hlk : Cond.methodLink RL idx N.1 ∈ jj_tb) (hV : jj_V N as.length) (hf : N.2.2.2.2.1 + 1 ≤ 14) (hlo : 8 + (N.2.2.1 + 11) + N.2.2.2.2.2 ≤ 558) (hst : (st.map fun v => v.category).sum ≤ 8) (hs : st0 = as.reverse ++ .ref ob :: st)
    (hC : jj_Cl K N (.ref ob :: as) w R) (k : ∀ v w1, R v w1 → ll_J K b L xs (pc + 3) l (.long v :: st) w1) : ll_J K b L xs pc l st0 w := ll_call hd hb hc hq hlk hV hf hlo hst hs hC (fun r w1 h => by obtain ⟨v, rfl, h⟩ := h; exact k v w1 h)
/-- one int of the script, by a place behind i -/
theorem ll_arg {i k : Nat} (hi : i + k < L) (hL : L ≤ 3072) {kk : Int} (hkk : Int32.ofInt kk = nI k) (d0 : decode code pc = .ok (.aload_n 0, 1)) (d1 : decode code (pc + 1) = .ok (.iload_n 3, 1)) (d2 : decode code (pc + 1 + 1) = .ok (.iconst kk, 1)) (d3 : decode code (pc + 1 + 1 + 1) = .ok (.iadd, 1)) (d4 : decode code (pc + 1 + 1 + 1 + 1) = .ok (.iaload, 1)) (g : ll_J K b L xs (pc + 1 + 1 + 1 + 1 + 1) [(3, .int (nI i)), (0, .ref 200), (1, .ref 0), (2, .ref 58)] (.int (xs (i + k)) :: st) w) : ll_J K b L xs pc [(3, .int (nI i)), (0, .ref 200), (1, .ref 0), (2, .ref 58)] st w := by
  refine ll_aload d0 1 rfl ?_
  refine ll_iload d1 0 rfl ?_
  refine ll_iconst d2 hkk ?_
  refine ll_iadd d3 ?_
  rw [nI_add]
  exact ll_sld hi hL d4 g
end

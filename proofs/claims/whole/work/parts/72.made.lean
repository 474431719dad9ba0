/-! ===== objects being made: worlds that grow ===== -/
abbrev kn_Z : Type := va_G × (Nat → ClassId) × Launch × Nat
def kn_A (Z : kn_Z) : Nat → Prop := fun q => Z.2.2.2 ≤ q
def kn_tys (Z : kn_Z) : List (ClassId × FieldType) := [(Z.2.1 0, .int), (Z.2.1 1, .long), (Z.2.1 2, .boolean), (Z.2.1 3, .object "LeastFrames$Sheet"), (Z.2.1 4, .array .long)]
def kn_nM : List (String × Nat × MethodName × String) := [("LeastFrames", 9, yX5_init, "LeastFrames"), ("LeastFrames", 12, yX3_init, "LeastFrames"), ("LeastFrames", 33, yX2_init, "LeastFrames"), ("LeastFrames", 40, yX1_init, "LeastFrames"), ("LeastFrames", 51, yX4_init, "LeastFrames")]
def kn_nest (U : State) : Prop := (∀ q ∈ kn_nM, va_Nw (.methodLinkNest q.1 q.2.1 q.2.2.1 q.2.2.2) U) ∧ va_AO "LeastFrames$Sheet" U ∧ va_AOA .long U
theorem kn_nest_warm {s U : State} (hW : s.WarmedH U.vm) (h : kn_nest s) : kn_nest U := ⟨fun q hq => va_Nw.warmM hW (h.1 q hq), h.2.1.moved hW.alike, Jvm.Stand.arrayOver_alikeB hW.alike h.2.2⟩
theorem kn_nest_same {s U : State} (hv : s.vm = U.vm) (h : kn_nest s) : kn_nest U := ⟨fun q hq => va_Nw.same rfl hv (h.1 q hq), h.2.1.moved (by rw [hv]; exact Vm.Alike.refl _), Jvm.Stand.arrayOver_alikeB (by rw [hv]; exact Vm.Alike.refl _) h.2.2⟩
/-- what doesn't move while objects are made -/
def kn_S (Z : kn_Z) (U : State) : Prop := va_K Z.1 vwCl (kn_tys Z) U ∧ kn_nest U ∧ Z.2.2.2 ≤ U.heap.size
abbrev kn_M : Type := MethodName × ByteArray × Nat × Nat × Nat × Nat × Nat
def kn_ws (M : kn_M) : List Cond := Cond.code M.1 M.2.1 M.2.2.1 none :: jj_tb
def kn_rm (M : kn_M) : Room := { frames := M.2.2.2.1, cells := M.2.2.2.2.2.1, slots := M.2.2.2.2.2.2, locals := M.2.2.2.2.1 }
def kn_P (Z : kn_Z) (as : List Value) (ws : va_W) : Array Value → State → Prop := fun v U => v = as.toArray ∧ va_P Z.1 vwCl ws U.heap ∧ va_D (kn_A Z) ws ∧ kn_S Z U
def kn_Q (Z : kn_Z) (P : va_W → Prop) : Array Value → State → Outcome → State → Prop := fun _ st oc t => (∃ ws : va_W, oc = .returned none ∧ P ws ∧ va_P Z.1 vwCl ws t.heap ∧ va_D (kn_A Z) ws) ∧ va_F (kn_A Z) st t
/-- a maker M with these arguments in this world ends, with P -/
def kn_C (Z : kn_Z) (M : kn_M) (as : List Value) (ws : va_W) (P : va_W → Prop) : Prop := Met Z.2.2.1 M.1 (kn_ws M) (kn_rm M) (kn_P Z as ws) (kn_Q Z P) M.2.2.2.2.2.1 M.2.2.2.2.2.2 (kn_A Z)
def kn_X (Z : kn_Z) (M : kn_M) (p : Program) (s : State) (m : MethodId) (args : Array Value) (meth : Method) (c : Code) : Prop :=
  p.tables.exec = Jvm.exec ∧ c.code = M.2.1 ∧ c.maxLocals = M.2.2.1 ∧ s.vm.findClass M.1.cls = some m.cls ∧ (∀ w ∈ jj_tb, w.before args s = true) ∧ meth.sig.returnType = none ∧ meth.locks = false ∧ meth.name = "<init>" ∧ kn_S Z s
def kn_J (Z : kn_Z) (M : kn_M) (P : va_W → Prop) (pc : Nat) (l : List (Nat × Value)) (st : List Value) (ws : va_W) (cells slots : Nat) : Prop :=
  ∀ (p : Program) (e : Env) (s : State) (m : MethodId) (args : Array Value) (below : List Frame) (meth : Method) (c : Code), kn_X Z M p s m args meth c →
    ∀ (H : Heap) (locs : List Loc) (ls : Array Slot), va_P Z.1 vwCl ws H → va_D (kn_A Z) ws → va_S (kn_A Z) s.heap H locs → lv_has ls M.2.2.1 l →
      W p Z.2.2.1 e (kn_rm M) s m args below meth c H locs cells slots (MQ below (kn_Q Z P) args s M.2.2.2.2.2.1 M.2.2.2.2.2.2 (kn_A Z)) (F0 m pc ls st)
/-! worlds by their members -/
theorem kn_Pm {D : va_G} {cl : List vw_C} {ws ws' : va_W} {H : Heap} (h : va_P D cl ws H) (hs : ∀ q ∈ ws', q ∈ ws) : va_P D cl ws' H := fun k q hk => by
  obtain ⟨i, hi⟩ := List.getElem?_of_mem (hs q (List.mem_of_getElem? hk))
  exact h i q hi
theorem kn_D1 {A : Nat → Prop} {ws : va_W} (h : va_D A ws) : (ws.map (fun q => q.1)).Nodup ∧ ∀ q ∈ ws, A q.1 := by
  refine ⟨?_, fun q hq => ?_⟩
  · refine List.pairwise_iff_getElem.mpr (fun i j hi hj hij e => ?_)
    rw [List.length_map] at hi hj
    rw [List.getElem_map, List.getElem_map] at e
    have := h.1 i j _ _ (List.getElem?_eq_getElem hi) (List.getElem?_eq_getElem hj) e
    omega
  · obtain ⟨i, hi⟩ := List.getElem?_of_mem hq
    exact h.2 i q hi
theorem kn_D2 {A : Nat → Prop} {ws : va_W} (h1 : (ws.map (fun q => q.1)).Nodup) (h2 : ∀ q ∈ ws, A q.1) : va_D A ws := by
  have key := List.pairwise_iff_getElem.mp h1
  refine ⟨fun i j p q hi hj e => ?_, fun k q hk => h2 q (List.mem_of_getElem? hk)⟩
  obtain ⟨hil, ei⟩ := List.getElem?_eq_some_iff.mp hi
  obtain ⟨hjl, ej⟩ := List.getElem?_eq_some_iff.mp hj
  rcases Nat.lt_trichotomy i j with q1 | q1 | q1
  · exfalso
    refine key i j (by rw [List.length_map]; exact hil) (by rw [List.length_map]; exact hjl) q1 ?_
    rw [List.getElem_map, List.getElem_map, ei, ej]
    exact e
  · exact q1
  · exfalso
    refine key j i (by rw [List.length_map]; exact hjl) (by rw [List.length_map]; exact hil) q1 ?_
    rw [List.getElem_map, List.getElem_map, ei, ej]
    exact e.symm
theorem kn_Dm {A : Nat → Prop} {ws ws' : va_W} (h : va_D A ws) (hp : List.Perm ws ws') : va_D A ws' := by
  obtain ⟨h1, h2⟩ := kn_D1 h
  exact kn_D2 ((hp.map (fun q => q.1)).nodup_iff.mp h1) (fun q hq => h2 q (hp.mem_iff.mpr hq))
theorem kn_PD {D : va_G} {cl : List vw_C} {A : Nat → Prop} {ws ws' : va_W} {H : Heap} (hp : List.Perm ws ws') (h : va_P D cl ws H) (hD : va_D A ws) : va_P D cl ws' H ∧ va_D A ws' := ⟨kn_Pm h (fun _ hq => hp.mem_iff.mpr hq), kn_Dm hD hp⟩
theorem kn_blind (Z : kn_Z) (as : List Value) (ws : va_W) : FrameBlind (kn_P Z as ws) := by
  intro a U fr mk h
  obtain ⟨h1, h2, h3, h4, h5, h6⟩ := h
  exact ⟨h1, h2, h3, va_K.moved (u := U) (U := U.calling fr mk a) (Vm.Alike.refl U.vm) h4, kn_nest_same (U := U.calling fr mk a) rfl h5, h6⟩
theorem kn_C_intro {Z : kn_Z} {M : kn_M} {as : List Value} {ws : va_W} {P : va_W → Prop} (hy : plainName M.1.cls = true) (hi : M.1.name = "<init>") (hlen : (lg_sl as).length ≤ M.2.2.1) (k : kn_J Z M P 0 (lv_args 0 as) [] ws 0 0) : kn_C Z M as ws P := by
  refine Met.ofW (cc := M.2.1) (maxL := M.2.2.1) (ret := none) (ws' := jj_tb) hy rfl ?_
  intro p e s m args below meth c s₁ B hml hv
  obtain ⟨rfl, hP, hD, hS⟩ := hv
  have hts := atoms_spec (ws := kn_ws M) B.pre
  have hnm : meth.name = "<init>" := (name_of_methodNamed B.named B.method).1.trans hi
  have hl := lv_entry as (n := M.2.2.1) hlen
  rw [lg_entry_eq]
  exact k p e s m _ below meth c ⟨B.exec, B.bytes, hml, findClass_of_methodNamed B.named, fun w h => hts w (List.mem_cons_of_mem _ h), B.returns, B.notSynchronized, hnm, hS⟩ s.heap [] _ hP hD va_S.rf hl
section
variable {Z : kn_Z} {M : kn_M} {P : va_W → Prop} {pc : Nat} {l : List (Nat × Value)} {st : List Value} {ws R : va_W} {cells slots : Nat}
theorem kn_aload {n : Fin 4} {x : Nat} (hd : decode M.2.1 pc = .ok (.aload_n n, 1)) (i : Nat) (h : l[i]? = some ((n : Nat), .ref x)) (k : kn_J Z M P (pc + 1) l (.ref x :: st) ws cells slots) : kn_J Z M P pc l st ws cells slots := by
  intro p e s m args below meth c X H locs ls hP hD hS hl
  exact lv_aload_n X.1 X.2.1 hd rfl (lv_at hl i h) (k p e s m args below meth c X H locs ls hP hD hS hl)
theorem kn_iload {n : Fin 4} {x : Int32} (hd : decode M.2.1 pc = .ok (.iload_n n, 1)) (i : Nat) (h : l[i]? = some ((n : Nat), .int x)) (k : kn_J Z M P (pc + 1) l (.int x :: st) ws cells slots) : kn_J Z M P pc l st ws cells slots := by
  intro p e s m args below meth c X H locs ls hP hD hS hl
  exact lv_iload_n X.1 X.2.1 hd rfl (lv_at hl i h) (k p e s m args below meth c X H locs ls hP hD hS hl)
theorem kn_iconst {n : Int} {v : Int32} (hd : decode M.2.1 pc = .ok (.iconst n, 1)) (hv : Int32.ofInt n = v) (k : kn_J Z M P (pc + 1) l (.int v :: st) ws cells slots) : kn_J Z M P pc l st ws cells slots := by
  intro p e s m args below meth c X H locs ls hP hD hS hl
  exact lv_iconst X.1 X.2.1 hd hv (k p e s m args below meth c X H locs ls hP hD hS hl)
theorem kn_bipush {n : Int} {v : Int32} (hd : decode M.2.1 pc = .ok (.bipush n, 2)) (hv : (Int8.ofInt n).toInt32 = v) (k : kn_J Z M P (pc + 2) l (.int v :: st) ws cells slots) : kn_J Z M P pc l st ws cells slots := by
  intro p e s m args below meth c X H locs ls hP hD hS hl
  exact lv_bipush X.1 X.2.1 hd hv (k p e s m args below meth c X H locs ls hP hD hS hl)
theorem kn_sipush {n : Int} {v : Int32} (hd : decode M.2.1 pc = .ok (.sipush n, 3)) (hv : (Int16.ofInt n).toInt32 = v) (k : kn_J Z M P (pc + 3) l (.int v :: st) ws cells slots) : kn_J Z M P pc l st ws cells slots := by
  intro p e s m args below meth c X H locs ls hP hD hS hl
  exact lv_sipush X.1 X.2.1 hd hv (k p e s m args below meth c X H locs ls hP hD hS hl)
theorem kn_lconst {n : Fin 2} {v : Int64} (hd : decode M.2.1 pc = .ok (.lconst n, 1)) (hv : Int64.ofNat (n : Nat) = v) (k : kn_J Z M P (pc + 1) l (.long v :: st) ws cells slots) : kn_J Z M P pc l st ws cells slots := by
  intro p e s m args below meth c X H locs ls hP hD hS hl
  exact lv_lconst X.1 X.2.1 hd hv (k p e s m args below meth c X H locs ls hP hD hS hl)
theorem kn_dup {v : Value} (hd : decode M.2.1 pc = .ok (.dup, 1)) (hv : v.category = 1) (k : kn_J Z M P (pc + 1) l (v :: v :: st) ws cells slots) : kn_J Z M P pc l (v :: st) ws cells slots := by
  intro p e s m args below meth c X H locs ls hP hD hS hl
  exact lv_dup X.1 X.2.1 hd hv (k p e s m args below meth c X H locs ls hP hD hS hl)
theorem kn_goto {off : Int} {tgt : Nat} (hd : decode M.2.1 pc = .ok (.goto off, 3)) (ht : (pc : Int) + off = (tgt : Int)) (k : kn_J Z M P tgt l st ws cells slots) : kn_J Z M P pc l st ws cells slots := by
  intro p e s m args below meth c X H locs ls hP hD hS hl
  exact lv_goto X.1 X.2.1 hd ht (k p e s m args below meth c X H locs ls hP hD hS hl)
theorem kn_icmpT {x y : Int32} {off : Int} {tgt : Nat} (hd : decode M.2.1 pc = .ok (.if_icmp .ge off, 3)) (ht : (pc : Int) + off = (tgt : Int)) (hc : y ≤ x) (k : kn_J Z M P tgt l st ws cells slots) : kn_J Z M P pc l (.int y :: .int x :: st) ws cells slots := by
  intro p e s m args below meth c X H locs ls hP hD hS hl
  exact lv_icmp_ge X.1 X.2.1 hd ht (fun _ => k p e s m args below meth c X H locs ls hP hD hS hl) (fun q => absurd hc q)
theorem kn_icmpF {x y : Int32} {off : Int} {tgt : Nat} (hd : decode M.2.1 pc = .ok (.if_icmp .ge off, 3)) (ht : (pc : Int) + off = (tgt : Int)) (hc : ¬ y ≤ x) (k : kn_J Z M P (pc + 3) l st ws cells slots) : kn_J Z M P pc l (.int y :: .int x :: st) ws cells slots := by
  intro p e s m args below meth c X H locs ls hP hD hS hl
  exact lv_icmp_ge X.1 X.2.1 hd ht (fun q => absurd q hc) (fun _ => k p e s m args below meth c X H locs ls hP hD hS hl)
theorem kn_astore {n : Fin 4} {x : Nat} {l2 : List (Nat × Value)} (hd : decode M.2.1 pc = .ok (.astore_n n, 1)) (hn : (n : Nat) < M.2.2.1) (h : ((n : Nat), Value.ref x) :: l.filter (fun q => !(q.1 == (n : Nat)) && !(q.1 + 1 == (n : Nat) && q.2.category == 2)) = l2) (k : kn_J Z M P (pc + 1) l2 st ws cells slots) : kn_J Z M P pc l (.ref x :: st) ws cells slots := by
  intro p e s m args below meth c X H locs ls hP hD hS hl
  exact lv_astore_n X.1 X.2.1 hd rfl hl hn h (fun ls hl => k p e s m args below meth c X H locs ls hP hD hS hl)
theorem kn_istore {n : Fin 4} {x : Int32} {l2 : List (Nat × Value)} (hd : decode M.2.1 pc = .ok (.istore_n n, 1)) (hn : (n : Nat) < M.2.2.1) (h : ((n : Nat), Value.int x) :: l.filter (fun q => !(q.1 == (n : Nat)) && !(q.1 + 1 == (n : Nat) && q.2.category == 2)) = l2) (k : kn_J Z M P (pc + 1) l2 st ws cells slots) : kn_J Z M P pc l (.int x :: st) ws cells slots := by
  intro p e s m args below meth c X H locs ls hP hD hS hl
  exact lv_istore_n X.1 X.2.1 hd rfl hl hn h (fun ls hl => k p e s m args below meth c X H locs ls hP hD hS hl)
theorem kn_iinc {n : Nat} {z : Int} {x v : Int32} {l2 : List (Nat × Value)} (hd : decode M.2.1 pc = .ok (.iinc n z, 3)) (i : Nat) (hi : l[i]? = some (n, .int x)) (hv : x + Int32.ofInt z = v) (hn : n < M.2.2.1) (h : (n, Value.int v) :: l.filter (fun q => !(q.1 == n) && !(q.1 + 1 == n && q.2.category == 2)) = l2) (k : kn_J Z M P (pc + 3) l2 st ws cells slots) : kn_J Z M P pc l st ws cells slots := by
  intro p e s m args below meth c X H locs ls hP hD hS hl
  exact lv_iinc (k := i) X.1 X.2.1 hd hl hi hv hn h (fun ls hl => k p e s m args below meth c X H locs ls hP hD hS hl)
theorem kn_obj {idx a : Nat} (hd : decode M.2.1 pc = .ok (.invokespecial idx, 3)) (hlk : Cond.methodLink M.1.cls idx Lib.objectInit ∈ jj_tb) (hin : Cond.instanceMethod Lib.objectInit ∈ jj_tb) (hco : Cond.code Lib.objectInit ⟨#[0xb1]⟩ 1 none ∈ jj_tb) (hf : 1 ≤ M.2.2.2.1) (hlo : (st.map fun v => v.category).sum + 12 ≤ M.2.2.2.2.1) (k : kn_J Z M P (pc + 3) l st ws cells slots) : kn_J Z M P pc l (.ref a :: st) ws cells slots := by
  intro p e s m args below meth c X H locs ls hP hD hS hl
  have hts := X.2.2.2.2.1
  refine W.objInit X.1 X.2.1 X.2.2.2.1 (hts _ hlk) (hts _ hin) (hts _ hco) rfl (by rw [X.2.2.1]; exact hl.1) rfl hd hf ?_ (k p e s m args below meth c X H locs ls hP hD hS hl)
  show 2 * 0 + _ + 12 ≤ M.2.2.2.2.1
  omega
theorem kn_newa {atype : ArrayType} {ty : FieldType} {t N : Nat} {n : Int32} {a0 : vp_A} {y : Nat × va_E} (hd : decode M.2.1 pc = .ok (.newarray atype, 2)) (hty : newarray.typeOf atype = ty) (ht : (kn_tys Z)[t]? = some (Z.2.1 t, ty)) (hpr : ∀ U c, va_RA U c ty = (U.vm.findClass ("[" ++ ty.toString) = some c)) (hw : Cond.arrayClass (newarray.typeOf atype) ∈ jj_tb) (ha : ∀ cA : ClassId, vp_cell cA a0 = arrV cA N (fun _ => defaultValue ty)) (hn : ¬ n < 0) (hN : n.toNatClampNeg = N) (hb : N * componentBytes ty ≤ 536870912) (hc : cells + 1 ≤ M.2.2.2.2.2.1) (hs : slots + N ≤ M.2.2.2.2.2.2)
    (k : ∀ q, kn_J Z M P (pc + 2) l (.ref q :: st) (y :: (q, .inl (Z.2.1 t, a0)) :: R) (cells + 1) (slots + N)) : kn_J Z M P pc l (.int n :: st) (y :: R) cells slots := by
  intro p e s m args below meth c X H locs ls hP hD hS hl
  obtain ⟨hK, hn1, hh⟩ := X.2.2.2.2.2.2.2.2
  refine va_newa X.1 X.2.1 (X.2.2.2.2.1 _ hw) hty hK hP hD hS (fun q hq => Nat.le_trans hh hq) ha hn hN hb hc hs hd (fun q cA H1 hK1 hP1 hD1 hS1 => ?_)
  have e1 := (hK1.2 (kn_tys Z).length (cA, ty) (by rw [List.getElem?_append_right (Nat.le_refl _), Nat.sub_self]; rfl)).2
  have e2 := (hK.2 t _ ht).2
  rw [hpr] at e1 e2
  have ec : cA = Z.2.1 t := Option.some.inj (e1.symm.trans e2)
  subst ec
  obtain ⟨hP2, hD2⟩ := kn_PD (ws' := y :: (q, .inl (Z.2.1 t, a0)) :: R) (List.Perm.cons y (List.perm_append_singleton _ R)) hP1 hD1
  exact k q p e s m args below meth c X H1 locs ls hP2 hD2 hS1 hl
theorem kn_put {ci k idx a q0 : Nat} {fs : List Value} {C : String} {T : u_T} {N : Nat} {ty : FieldType} {v : Value} (hd : decode M.2.1 pc = .ok (.putfield idx, 3)) (hq : ws[q0]? = some (a, .inr (ci, fs))) (hc : vwCl[ci]? = some (C, T, N)) (hk : k < N) (hlk : Cond.fieldLink M.1.cls idx (T k).1 (T k).2.1 (T k).2.2.1 ∈ jj_tb) (hown : (T k).1 = M.1.cls) (hty : parseFieldDescriptor (T k).2.2.1 = some ty) (hn : narrow ty v = v) (hfit : fits ty v = true) (hl' : k < fs.length)
    (kk : kn_J Z M P (pc + 3) l st (ws.set q0 (a, .inr (ci, fs.set k v))) cells slots) : kn_J Z M P pc l (v :: .ref a :: st) ws cells slots := by
  intro p e s m args below meth c X H locs ls hP hD hS hl
  obtain ⟨hK, hn1, hh⟩ := X.2.2.2.2.2.2.2.2
  cases hfin : (T k).2.2.2 with
  | false =>
    refine va_put (Ts := jj_tb) (v := v) X.1 X.2.1 X.2.2.2.2.1 (jj_inOk ci _ hc) (jj_tyC ci) (jj_tyOk ci _ hc) (jj_nmOk ci _ hc) X.2.2.2.1 hK hP hD hS q0 hq hc k hk (X.2.2.2.2.1 _ hlk) (fun _ h => h) hfin hty hn hfit hl' hd (fun H1 locs1 hP1 hD1 hS1 => ?_)
    exact kk p e s m args below meth c X H1 locs1 ls hP1 hD1 hS1 hl
  | true =>
    refine va_putF (Ts := jj_tb) (v := v) X.1 X.2.1 X.2.2.2.2.1 (jj_inOk ci _ hc) (jj_tyC ci) (jj_tyOk ci _ hc) (jj_nmOk ci _ hc) X.2.2.2.1 hK hP hD hS q0 hq hc k hk (X.2.2.2.2.1 _ hlk) (fun _ h => h) hfin X.2.2.2.2.2.2.2.1 hown hty hn hfit hl' hd (fun H1 locs1 hP1 hD1 hS1 => ?_)
    exact kk p e s m args below meth c X H1 locs1 ls hP1 hD1 hS1 hl
theorem kn_get {ci k idx a q0 : Nat} {fs : List Value} {C : String} {T : u_T} {N : Nat} {v : Value} (hd : decode M.2.1 pc = .ok (.getfield idx, 3)) (hq : ws[q0]? = some (a, .inr (ci, fs))) (hc : vwCl[ci]? = some (C, T, N)) (hk : k < N) (hlk : Cond.fieldLink M.1.cls idx (T k).1 (T k).2.1 (T k).2.2.1 ∈ jj_tb) (hv : fs[k]? = some v) (kk : kn_J Z M P (pc + 3) l (v :: st) ws cells slots) : kn_J Z M P pc l (.ref a :: st) ws cells slots := by
  intro p e s m args below meth c X H locs ls hP hD hS hl
  obtain ⟨hK, hn1, hh⟩ := X.2.2.2.2.2.2.2.2
  exact va_get (Ts := jj_tb) (v := v) X.1 X.2.1 X.2.2.2.2.1 (jj_inOk ci _ hc) X.2.2.2.1 hK hP q0 hq hc k hk (X.2.2.2.2.1 _ hlk) (fun _ h => h) hv hd (kk p e s m args below meth c X H locs ls hP hD hS hl)
theorem kn_new {ci idx N : Nat} {C : String} {T : u_T} {fs : List Value} (hd : decode M.2.1 pc = .ok (.new idx, 3)) (hc : vwCl[ci]? = some (C, T, N)) (hcl : Cond.classLink M.1.cls idx C ∈ jj_tb) (hin : Cond.instantiable C N ∈ jj_tb) (hini : Cond.initialized C ∈ jj_tb) (hfs : ∀ j, j < N → defaultValue (jj_tyC ci j) = vp_V fs j) (hcs : cells + 1 ≤ M.2.2.2.2.2.1) (hss : slots + N ≤ M.2.2.2.2.2.2)
    (k : ∀ q, kn_J Z M P (pc + 3) l (.ref q :: st) ((q, .inr (ci, fs)) :: ws) (cells + 1) (slots + N)) : kn_J Z M P pc l st ws cells slots := by
  intro p e s m args below meth c X H locs ls hP hD hS hl
  obtain ⟨hK, hn1, hh⟩ := X.2.2.2.2.2.2.2.2
  have hts := X.2.2.2.2.1
  refine va_new (Ts := jj_tb) (fs := fs) X.1 X.2.1 hts (jj_inOk ci _ hc) (jj_tyC ci) (jj_tyOk ci _ hc) X.2.2.2.1 (hts _ hcl) (hts _ hin) (hts _ hini) hK hP hD hS (fun q hq => Nat.le_trans hh hq) hc hfs hcs hss hd (fun q H1 hP1 hD1 hS1 => ?_)
  obtain ⟨hP2, hD2⟩ := kn_PD (List.perm_append_singleton _ ws) hP1 hD1
  exact k q p e s m args below meth c X H1 locs ls hP2 hD2 hS1 hl
theorem kn_newq {idx N : Nat} {n : Int32} (hd : decode M.2.1 pc = .ok (.anewarray idx, 3)) (hcl : Cond.classLink M.1.cls idx "LeastFrames$Sheet" ∈ jj_tb) (hn : ¬ n < 0) (hN : n.toNatClampNeg = N) (hb : N * 4 ≤ 536870912) (hcs : cells + 1 ≤ M.2.2.2.2.2.1) (hss : slots + N ≤ M.2.2.2.2.2.2)
    (k : ∀ q, kn_J Z M P (pc + 3) l (.ref q :: st) ((q, .inl (Z.2.1 3, N, .inr (.inr (.inr (.inr (fun _ => none)))))) :: ws) (cells + 1) (slots + N)) : kn_J Z M P pc l (.int n :: st) ws cells slots := by
  intro p e s m args below meth c X H locs ls hP hD hS hl
  obtain ⟨hK, hn1, hh⟩ := X.2.2.2.2.2.2.2.2
  have hts := X.2.2.2.2.1
  refine va_newq X.1 X.2.1 X.2.2.2.1 (hts _ hcl) hn1.2.1 hK hP hD hS (fun q hq => Nat.le_trans hh hq) hn hN hb hcs hss hd (fun q cA H1 hK1 hP1 hD1 hS1 => ?_)
  obtain ⟨kA, comp, -, -, -, e1⟩ := (hK1.2 (kn_tys Z).length (cA, .object "LeastFrames$Sheet") (by rw [List.getElem?_append_right (Nat.le_refl _), Nat.sub_self]; rfl)).2
  obtain ⟨kA', comp', -, -, -, e2⟩ := (hK.2 3 _ rfl).2
  have ec : cA = Z.2.1 3 := Option.some.inj (e1.symm.trans e2)
  subst ec
  obtain ⟨hP2, hD2⟩ := kn_PD (List.perm_append_singleton _ ws) hP1 hD1
  exact k q p e s m args below meth c X H1 locs ls hP2 hD2 hS1 hl
theorem kn_astq {q0 qk a v n : Nat} {vs : List Value} {f : Nat → Option Nat} {i : Int32} (hd : decode M.2.1 pc = .ok (.aastore, 1)) (ha : ws[q0]? = some (a, .inl (Z.2.1 3, n, .inr (.inr (.inr (.inr f)))))) (hv : ws[qk]? = some (v, .inr (4, vs))) (hin : vp_in i n)
    (k : kn_J Z M P (pc + 1) l st (ws.set q0 (a, .inl (Z.2.1 3, n, .inr (.inr (.inr (.inr (va_up f i.toNatClampNeg (some v)))))))) cells slots) : kn_J Z M P pc l (.ref v :: .int i :: .ref a :: st) ws cells slots := by
  intro p e s m args below meth c X H locs ls hP hD hS hl
  obtain ⟨hK, hn1, hh⟩ := X.2.2.2.2.2.2.2.2
  exact va_astq (r := (RX4, TX4, 4)) X.1 X.2.1 hK hP hD hS q0 3 qk 4 ha rfl hv rfl hin hd (fun H1 locs1 hP1 hD1 hS1 => k p e s m args below meth c X H1 locs1 ls hP1 hD1 hS1 hl)
theorem kn_iast {q0 a n : Nat} {f : Nat → Int32} {i x : Int32} (hd : decode M.2.1 pc = .ok (.iastore, 1)) (ha : ws[q0]? = some (a, .inl (Z.2.1 0, n, .inl f))) (hin : vp_in i n)
    (k : kn_J Z M P (pc + 1) l st (ws.set q0 (a, .inl (Z.2.1 0, n, .inl (upd f i.toNatClampNeg x)))) cells slots) : kn_J Z M P pc l (.int x :: .int i :: .ref a :: st) ws cells slots := by
  intro p e s m args below meth c X H locs ls hP hD hS hl
  obtain ⟨hK, hn1, hh⟩ := X.2.2.2.2.2.2.2.2
  exact va_iast X.1 X.2.1 hK hP hD hS q0 0 ha rfl hin hd (fun H1 locs1 hP1 hD1 hS1 => k p e s m args below meth c X H1 locs1 ls hP1 hD1 hS1 hl)
theorem kn_mna {idx N K' : Nat} {n k : Int32} {y : Nat × va_E} (hd : decode M.2.1 pc = .ok (.multianewarray idx 2, 4)) (hcl : Cond.classLink M.1.cls idx ("[" ++ (FieldType.array .long).toString) ∈ jj_tb) (hw : Cond.arrayClass .long ∈ jj_tb) (hn : ¬ n < 0) (hk : ¬ k < 0) (hN : n.toNatClampNeg = N) (hM : k.toNatClampNeg = K') (hb1 : N * 4 ≤ 536870912) (hb2 : K' * componentBytes .long ≤ 536870912) (hb3 : K' ≤ 536870912) (hcs : cells + (1 + N) ≤ M.2.2.2.2.2.1) (hss : slots + (N + N * K') ≤ M.2.2.2.2.2.2)
    (kk : ∀ (q : Nat) (r : Nat → Nat), kn_J Z M P (pc + 4) l (.ref q :: st) (y :: ((q, .inl (Z.2.1 4, N, .inr (.inr (.inr (.inr (fun i => if i < N then some (r i) else none)))))) :: ((List.range N).map (fun i => (r i, .inl (Z.2.1 1, K', .inr (.inl (fun _ => 0)))))) ++ R)) (cells + 1 + N) (slots + N + N * K')) : kn_J Z M P pc l (.int k :: .int n :: st) (y :: R) cells slots := by
  intro p e s m args below meth c X H locs ls hP hD hS hl
  obtain ⟨hK, hn1, hh⟩ := X.2.2.2.2.2.2.2.2
  have hts := X.2.2.2.2.1
  have e0 : (y :: R) ++ va_pl [] (fun _ => (.inl (Z.2.1 1, K', .inr (.inl (fun _ => 0))) : va_E)) = y :: R := List.append_nil _
  refine va_mna (X := y :: R) (L := []) (f := fun _ => (.inl (Z.2.1 1, K', .inr (.inl (fun _ => 0))) : va_E)) (ty := .long) (cy := Z.2.1 1) (z := (K', .inr (.inl (fun _ => 0)))) X.1 X.2.1 X.2.2.2.1 (hts _ hcl) hn1.2.2 (hts _ hw) (hK.2 1 _ rfl).2 hK (by rw [e0]; exact hP) (by rw [e0]; exact hD) hS (fun q hq => Nat.le_trans hh hq) hn hk hN hM hb1 hb2 hb3 rfl rfl hcs hss (fun c => ?_) hd (fun q r cA H1 hinj _ hK1 hP1 hD1 hS1 => ?_)
  · rw [vp_cell_l, ← arrV_new]; rfl
  have e1 := (hK1.2 (kn_tys Z).length (cA, .array .long) (by rw [List.getElem?_append_right (Nat.le_refl _), Nat.sub_self]; rfl)).2
  have e2 := (hK.2 4 _ rfl).2
  have ec : cA = Z.2.1 4 := Option.some.inj (e1.symm.trans e2)
  subst ec
  have ep : va_pl ([] ++ (List.range N).map r) (vr_up (fun _ => (.inl (Z.2.1 1, K', .inr (.inl (fun _ => 0))) : va_E)) ((List.range N).map r) (.inl (Z.2.1 1, K', .inr (.inl (fun _ => 0))))) = (List.range N).map (fun i => ((r i, .inl (Z.2.1 1, K', .inr (.inl (fun _ => 0)))) : Nat × va_E)) := by
    rw [List.nil_append]
    unfold va_pl
    rw [List.map_map]
    refine List.map_congr_left (fun i hi => ?_)
    show (r i, vr_up _ _ _ (r i)) = _
    rw [vr_up_in (List.mem_map.mpr ⟨i, hi, rfl⟩)]
  rw [ep] at hP1 hD1
  have hperm : List.Perm (((y :: R) ++ [(q, .inl (Z.2.1 4, N, .inr (.inr (.inr (.inr (fun i => if i < N then some (r i) else none))))))]) ++ (List.range N).map (fun i => ((r i, .inl (Z.2.1 1, K', .inr (.inl (fun _ => 0)))) : Nat × va_E))) (y :: ((q, .inl (Z.2.1 4, N, .inr (.inr (.inr (.inr (fun i => if i < N then some (r i) else none)))))) :: ((List.range N).map (fun i => (r i, .inl (Z.2.1 1, K', .inr (.inl (fun _ => 0)))))) ++ R)) := by
    refine List.Perm.cons y ?_
    refine ((List.perm_append_singleton _ R).append_right _).trans ?_
    exact List.Perm.cons _ List.perm_append_comm
  obtain ⟨hP2, hD2⟩ := kn_PD hperm hP1 hD1
  exact kk q r p e s m args below meth c X H1 locs ls hP2 hD2 hS1 hl
theorem kn_ret (hd : decode M.2.1 pc = .ok (.return_, 1)) (hcs : cells ≤ M.2.2.2.2.2.1) (hss : slots ≤ M.2.2.2.2.2.2) (h : P ws) : kn_J Z M P pc l [] ws cells slots := by
  intro p e s m args below meth c X H locs ls hP hD hS hl
  have hlocks := X.2.2.2.2.2.2.1
  refine W.widen hcs hss ?_
  exact W.vret X.1 X.2.1 X.2.2.2.2.2.1 (fun t ht hW => ⟨⟨ws, rfl, h, by rw [ht]; exact hP, hD⟩, hS.F ht⟩) hS.2.2 hd
/-- behind a call of a maker -/
theorem kn_after {Rp : va_W → Prop} {mc ms : Nat} {p : Program} {e : Env} {s : State} {m : MethodId} {args : Array Value} {below : List Frame} {meth : Method} {c : Code} {H : Heap} {locs : List Loc} {ls : Array Slot} {st0 : List Value} {a : Array Value} (X : kn_X Z M p s m args meth c) (hS : va_S (kn_A Z) s.heap H locs) (hl : lv_has ls M.2.2.1 l)
    (hr : va_Run p Z.2.2.1 e (kn_rm M) s m args below meth c H locs cells slots mc ms (F0 m pc ls st0) st (kn_Q Z Rp a) (kn_A Z)) (k : ∀ w1, Rp w1 → kn_J Z M P (pc + 3) l st w1 (cells + mc) (slots + ms)) :
    W p Z.2.2.1 e (kn_rm M) s m args below meth c H locs cells slots (MQ below (kn_Q Z P) args s M.2.2.2.2.2.1 M.2.2.2.2.2.2 (kn_A Z)) (F0 m pc ls st0) := by
  intro T hT Y
  obtain ⟨v, st₀, t, T', L, h0, X', hL, e1, e2, ⟨⟨w1, hv, hp, hb, hD⟩, hz, hk⟩, st'⟩ := hr T hT Y
  have hv' : v = none := by cases hv; rfl
  rw [h0] at hz hk
  obtain ⟨t2, a1, b1⟩ := k w1 hp p e s m args below meth c X T'.heap (locs ++ L) ls (by rw [e1]; exact hb) hD
    ⟨Nat.le_trans hS.1 (by rw [e1]; exact hz), fun q h1 h2 => by rw [e1, hk q (Nat.lt_of_lt_of_le h1 hS.1) h2]; exact hS.2.1 q h1 h2, fun q hq => by
      rcases List.mem_append.mp hq with h | h
      · exact hS.2.2 q h
      · exact hL q h⟩ hl T' rfl X'
  refine ⟨t2, st' t2 ?_, b1⟩
  rw [hv']
  exact a1
theorem kn_at {p : Program} {s : State} {m : MethodId} {args : Array Value} {meth : Method} {c : Code} {H : Heap} {locs : List Loc} (X : kn_X Z M p s m args meth c) (hP : va_P Z.1 vwCl ws H) (hD : va_D (kn_A Z) ws) (hS : va_S (kn_A Z) s.heap H locs) (as : List Value) : ∀ U : State, U.heap = H → s.WarmedH U.vm → kn_P Z as ws as.toArray U := by
  intro U hU hW
  obtain ⟨hK, hn1, hh⟩ := X.2.2.2.2.2.2.2.2
  exact ⟨rfl, by rw [hU]; exact hP, hD, hK.moved hW.alike, kn_nest_warm hW hn1, by rw [hU]; exact Nat.le_trans hh hS.1⟩
theorem kn_gin (N : kn_M) (h : Cond.code N.1 N.2.1 N.2.2.1 none ∈ jj_tb) : GoodIn jj_tb (kn_ws N) := by
  intro w hw
  rcases List.mem_cons.mp hw with rfl | hw
  · exact ⟨h, good_of_word (jj_good _ h)⟩
  · exact ⟨hw, good_of_word (jj_good _ hw)⟩
def kn_I (N : kn_M) (n : Nat) : Prop := Cond.instanceMethod N.1 ∈ jj_tb ∧ Cond.initialized N.1.cls ∈ jj_tb ∧ Cond.code N.1 N.2.1 N.2.2.1 none ∈ jj_tb ∧ N.1.name = "<init>" ∧ (N.1.cls ≠ "java/lang/invoke/MethodHandle" ∧ N.1.cls ≠ "java/lang/invoke/VarHandle" ∧ (parseMethodDescriptor N.1.desc).map (fun d => d.parameters.length) = some n)
theorem kn_callN {N : kn_M} {as st0 : List Value} {b idx : Nat} {host : String} {Rp : va_W → Prop} (hd : decode M.2.1 pc = .ok (.invokespecial idx, 3)) (hlk : (M.1.cls, idx, N.1, host) ∈ kn_nM) (hI : kn_I N as.length) (hf : N.2.2.2.1 + 1 ≤ M.2.2.2.1) (hlo : 8 + (N.2.2.1 + 11) + N.2.2.2.2.1 ≤ M.2.2.2.2.1) (hst : (st.map fun v => v.category).sum ≤ 8) (hs : st0 = as.reverse ++ .ref b :: st) (hcs : cells + N.2.2.2.2.2.1 ≤ M.2.2.2.2.2.1) (hss : slots + N.2.2.2.2.2.2 ≤ M.2.2.2.2.2.2)
    (hC : kn_C Z N (.ref b :: as) ws Rp) (k : ∀ w1, Rp w1 → kn_J Z M P (pc + 3) l st w1 (cells + N.2.2.2.2.2.1) (slots + N.2.2.2.2.2.2)) : kn_J Z M P pc l st0 ws cells slots := by
  intro p e s m args below meth c X H locs ls hP hD hS hl
  obtain ⟨v1, v3, v4, v0, v5⟩ := hI
  have hts := X.2.2.2.2.1
  refine kn_after X hS hl (va_runIN (As := as) (n := as.length) (Ts := jj_tb) (index := idx) (host := host) (b := b) ⟨X.1, X.2.1, X.2.2.1, X.2.2.2.1, hts⟩ hC ⟨va_cnB as.length hts (kn_gin N v4) rfl rfl rfl (X.2.2.2.2.2.2.2.2.2.1.1 _ hlk) (hts _ v3) v5 ⟨hf, hlo⟩, v0, hts _ v1⟩ ⟨kn_blind _ _ _, fun U hU hW => kn_at X hP hD hS (.ref b :: as) U hU hW⟩ rfl rfl hl.1 hs ?_ hd ⟨hcs, hss⟩) k
  show 2 * 0 + _ ≤ 8
  omega
theorem kn_callI {N : kn_M} {as st0 : List Value} {b idx : Nat} {Rp : va_W → Prop} (hd : decode M.2.1 pc = .ok (.invokespecial idx, 3)) (hlk : Cond.methodLink M.1.cls idx N.1 ∈ jj_tb) (hI : kn_I N as.length) (hf : N.2.2.2.1 + 1 ≤ M.2.2.2.1) (hlo : 8 + (N.2.2.1 + 11) + N.2.2.2.2.1 ≤ M.2.2.2.2.1) (hst : (st.map fun v => v.category).sum ≤ 8) (hs : st0 = as.reverse ++ .ref b :: st) (hcs : cells + N.2.2.2.2.2.1 ≤ M.2.2.2.2.2.1) (hss : slots + N.2.2.2.2.2.2 ≤ M.2.2.2.2.2.2)
    (hC : kn_C Z N (.ref b :: as) ws Rp) (k : ∀ w1, Rp w1 → kn_J Z M P (pc + 3) l st w1 (cells + N.2.2.2.2.2.1) (slots + N.2.2.2.2.2.2)) : kn_J Z M P pc l st0 ws cells slots := by
  intro p e s m args below meth c X H locs ls hP hD hS hl
  obtain ⟨v1, v3, v4, v0, v5⟩ := hI
  have hts := X.2.2.2.2.1
  refine kn_after X hS hl (va_runI (As := as) (n := as.length) (Ts := jj_tb) (index := idx) (b := b) ⟨X.1, X.2.1, X.2.2.1, X.2.2.2.1, hts⟩ hC (cwI as.length hts (kn_gin N v4) rfl rfl rfl (hts _ v3) (hts _ hlk) (hts _ v1) v0 v5 ⟨hf, hlo⟩) ⟨kn_blind _ _ _, fun U hU hW => kn_at X hP hD hS (.ref b :: as) U hU hW⟩ rfl rfl hl.1 hs ?_ hd ⟨hcs, hss⟩) k
  show 2 * 0 + _ ≤ 8
  omega
end

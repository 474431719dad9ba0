/-! ===== the world: one table of ints, one of longs; the shape of the cells never changes behind the constructors ===== -/
abbrev wo_T : Type := (Nat → Nat → Int32) × (Nat → Nat → Int64)
def wo_i (w : wo_T) (a k : Nat) (v : Int32) : wo_T := (fun b j => if b = a ∧ j = k then v else w.1 b j, w.2)
def wo_l (w : wo_T) (a k : Nat) (v : Int64) : wo_T := (w.1, fun b j => if b = a ∧ j = k then v else w.2 b j)
/-- a cell's kind: an object (number of its class; its fields: 0 an int, 1 a long, r + 2 the cell r), or an array (0 ints, 1 longs, 2 booleans, 3 sheets, 4 rows of longs; its length; of references the first cell and the step) -/
abbrev wo_K : Type := (Nat × List Nat) ⊕ (Nat × Nat × Nat × Nat)
def wo_lay : List wo_K := [
  .inl (6, [3, 25, 31, 37, 50, 51, 0, 0, 0]),
  .inl (3, [4, 5, 6, 7, 8, 9, 0]), .inr (0, 10, 0, 0), .inr (0, 5, 0, 0), .inr (0, 10, 0, 0), .inr (0, 10, 0, 0), .inr (0, 20, 0, 0), .inr (0, 10, 0, 0),
  .inl (5, [11, 20, 21, 22, 23, 24, 0, 0]), .inr (4, 8, 10, 1),
  .inr (1, 110, 0, 0), .inr (1, 110, 0, 0), .inr (1, 110, 0, 0), .inr (1, 110, 0, 0), .inr (1, 110, 0, 0), .inr (1, 110, 0, 0), .inr (1, 110, 0, 0), .inr (1, 110, 0, 0),
  .inr (0, 8, 0, 0), .inr (0, 8, 0, 0), .inr (0, 8, 0, 0), .inr (1, 8, 0, 0), .inr (1, 8, 0, 0),
  .inl (0, [26, 27, 28, 29, 1, 10, 30, 0, 0, 0, 0]), .inr (0, 252, 0, 0), .inr (1, 252, 0, 0), .inr (1, 252, 0, 0), .inr (1, 10, 0, 0), .inr (0, 8, 0, 0),
  .inl (0, [32, 33, 34, 35, 1, 10, 36, 0, 0, 0, 0]), .inr (0, 252, 0, 0), .inr (1, 252, 0, 0), .inr (1, 252, 0, 0), .inr (1, 10, 0, 0), .inr (0, 8, 0, 0),
  .inl (2, [38, 49, 0]), .inr (4, 10, 37, 1),
  .inr (1, 11, 0, 0), .inr (1, 11, 0, 0), .inr (1, 11, 0, 0), .inr (1, 11, 0, 0), .inr (1, 11, 0, 0), .inr (1, 11, 0, 0), .inr (1, 11, 0, 0), .inr (1, 11, 0, 0), .inr (1, 11, 0, 0), .inr (1, 11, 0, 0),
  .inr (0, 10, 0, 0),
  .inl (1, [0, 0, 1, 1, 1]),
  .inr (3, 4, 50, 2),
  .inl (4, [53, 0, 0, 0]), .inr (1, 40, 0, 0), .inl (4, [55, 0, 0, 0]), .inr (1, 40, 0, 0), .inl (4, [57, 0, 0, 0]), .inr (1, 40, 0, 0), .inl (4, [59, 0, 0, 0]), .inr (1, 40, 0, 0),
  .inl (7, [61, 62, 63, 64, 65, 0, 0, 66, 67, 0, 68, 69, 70, 0, 0, 0, 0, 71, 72, 73, 74, 0]),
  .inr (0, 5, 0, 0), .inr (0, 5, 0, 0), .inr (0, 5, 0, 0), .inr (0, 10, 0, 0), .inr (0, 10, 0, 0), .inr (1, 110, 0, 0), .inr (0, 10, 0, 0), .inr (2, 1024, 0, 0), .inr (1, 1024, 0, 0), .inr (1, 1024, 0, 0), .inr (0, 4, 0, 0), .inr (0, 4, 0, 0), .inr (1, 160, 0, 0), .inr (1, 40, 0, 0)]
/-- where the cells lie, the classes, the array classes -/
abbrev wo_G : Type := (Nat → Nat) × va_G × (Nat → ClassId)
def wo_mv (ad : Nat → Nat) (v : Value) : Value := match v with
  | .ref a => .ref (ad a)
  | v => v
def wo_fv (ad : Nat → Nat) (w : wo_T) (o k f : Nat) : Value := match f with
  | 0 => .int (w.1 o k)
  | 1 => .long (w.2 o k)
  | r + 2 => .ref (ad r)
def wo_cell (g : wo_G) (w : wo_T) (o : Nat) (q : wo_K) : va_E := match q with
  | .inl (ci, fs) => .inr (ci, fs.mapIdx (fun k f => wo_fv g.1 w o k f))
  | .inr (0, n, _, _) => .inl (g.2.2 0, n, .inl (w.1 o))
  | .inr (1, n, _, _) => .inl (g.2.2 1, n, .inr (.inl (w.2 o)))
  | .inr (2, n, _, _) => .inl (g.2.2 2, n, .inl (w.1 o))
  | .inr (t + 3, n, b, d) => .inl (g.2.2 (t + 3), n, .inr (.inr (.inr (.inr (fun j => if j < n then some (g.1 (b + d * j)) else none)))))
def wo_rz (g : wo_G) (w : wo_T) : va_W := wo_lay.mapIdx (fun o q => (g.1 o, wo_cell g w o q))
def wo_A (g : wo_G) : Nat → Prop := fun q => ∃ o, o < 73 ∧ q = g.1 o
def wo_tys (g : wo_G) : List (ClassId × FieldType) := [(g.2.2 0, .int), (g.2.2 1, .long), (g.2.2 2, .boolean), (g.2.2 3, .object "LeastFrames$Sheet"), (g.2.2 4, .array .long)]
def wo_dis (g : wo_G) : Prop := ∀ i j, i < 73 → j < 73 → g.1 i = g.1 j → i = j
def wo_les (j : Nat) : Int32 := match j with
  | 0 => 0 | 1 => 0 | 2 => 1 | 3 => 0 | 4 => 1 | 5 => 2 | 6 => 0 | 7 => 1 | 8 => 2 | _ => 3
def wo_gre (j : Nat) : Int32 := match j with
  | 0 => 1 | 1 => 2 | 2 => 2 | 3 => 3 | 4 => 3 | 5 => 3 | _ => 4
def wo_st (g : wo_G) (U : State) (H : Heap) : Prop :=
  va_Z "LeastFrames" "LESSER" "[I" (.ref (g.1 100)) (wo_A g) U H ∧ va_T .int (g.1 100) 10 (fun j => .int (wo_les j)) (wo_A g) U H ∧
  va_Z "LeastFrames" "GREATER" "[I" (.ref (g.1 101)) (wo_A g) U H ∧ va_T .int (g.1 101) 10 (fun j => .int (wo_gre j)) (wo_A g) U H
def wo_nF : List (String × Nat × String × String × String × String) := [("LeastFrames$Ground", 42, "LeastFrames", "GREATER", "[I", "LeastFrames"), ("LeastFrames$Ground", 45, "LeastFrames", "LESSER", "[I", "LeastFrames"), ("LeastFrames$Crossing", 24, "LeastFrames", "LESSER", "[I", "LeastFrames")]
def wo_nM : List (String × Nat × MethodName × String) := [("LeastFrames$Bearers", 96, yX6_asLong, "LeastFrames"), ("LeastFrames$Bearers", 100, yX6_lowest, "LeastFrames")]
def wo_nest (U : State) : Prop := (∀ q ∈ wo_nF, va_Nw (.fieldLinkNest q.1 q.2.1 q.2.2.1 q.2.2.2.1 q.2.2.2.2.1 q.2.2.2.2.2) U) ∧ ∀ q ∈ wo_nM, va_Nw (.methodLinkNest q.1 q.2.1 q.2.2.1 q.2.2.2) U
/-- what of a world doesn't move -/
def wo_S (g : wo_G) (U : State) : Prop := va_K g.2.1 vwCl (wo_tys g) U ∧ wo_dis g ∧ wo_st g U U.heap ∧ wo_nest U
def wo_at (g : wo_G) (w : wo_T) (U : State) : Prop := va_P g.2.1 vwCl (wo_rz g w) U.heap ∧ wo_S g U
theorem wo_len : wo_lay.length = 73 := by decide +kernel
theorem wo_get {g : wo_G} {w : wo_T} {o : Nat} {q : wo_K} (h : wo_lay[o]? = some q) : (wo_rz g w)[o]? = some (g.1 o, wo_cell g w o q) := by
  simp [wo_rz, List.getElem?_mapIdx, h]
theorem wo_cell_congr {g : wo_G} {w w' : wo_T} {o : Nat} (h1 : w'.1 o = w.1 o) (h2 : w'.2 o = w.2 o) (q : wo_K) : wo_cell g w' o q = wo_cell g w o q := by
  have hf : (fun k f => wo_fv g.1 w' o k f) = (fun k f => wo_fv g.1 w o k f) := by
    funext k f
    match f with
    | 0 => simp [wo_fv, h1]
    | 1 => simp [wo_fv, h2]
    | r + 2 => simp [wo_fv]
  match q with
  | .inl (ci, fs) => simp [wo_cell, hf]
  | .inr (0, n, _, _) => simp [wo_cell, h1]
  | .inr (1, n, _, _) => simp [wo_cell, h2]
  | .inr (2, n, _, _) => simp [wo_cell, h1]
  | .inr (t + 3, n, b, d) => simp [wo_cell]
theorem wo_set {g : wo_G} {w w' : wo_T} {o : Nat} {q : wo_K} {e : va_E} (hk : wo_lay[o]? = some q) (he : e = wo_cell g w' o q) (h1 : ∀ b, b ≠ o → w'.1 b = w.1 b) (h2 : ∀ b, b ≠ o → w'.2 b = w.2 b) : (wo_rz g w).set o (g.1 o, e) = wo_rz g w' := by
  apply List.ext_getElem?
  intro i
  have hlt := (List.getElem?_eq_some_iff.mp hk).1
  rw [List.getElem?_set]
  by_cases h : o = i
  · subst h
    rw [if_pos rfl, if_pos (by simpa [wo_rz] using hlt), wo_get hk, he]
  · rw [if_neg h]
    simp only [wo_rz, List.getElem?_mapIdx]
    cases wo_lay[i]? with
    | none => rfl
    | some r => simp [wo_cell_congr (h1 i (Ne.symm h)) (h2 i (Ne.symm h)) r]
theorem wo_i_ne {w : wo_T} {o k : Nat} {v : Int32} (b : Nat) (h : b ≠ o) : (wo_i w o k v).1 b = w.1 b := by
  funext j; simp [wo_i, h]
theorem wo_l_ne {w : wo_T} {o k : Nat} {v : Int64} (b : Nat) (h : b ≠ o) : (wo_l w o k v).2 b = w.2 b := by
  funext j; simp [wo_l, h]
theorem wo_i_at {w : wo_T} {o k : Nat} {v : Int32} : (wo_i w o k v).1 o = upd (w.1 o) k v := by
  funext j; simp [wo_i, upd]
theorem wo_l_at {w : wo_T} {o k : Nat} {v : Int64} : (wo_l w o k v).2 o = vp_updL (w.2 o) k v := by
  funext j; simp [wo_l, vp_updL]
theorem wo_D {g : wo_G} {w : wo_T} (h : wo_dis g) : va_D (wo_A g) (wo_rz g w) := by
  refine ⟨fun i j p q hp hq e => ?_, fun k q hq => ?_⟩
  · have hi := (List.getElem?_eq_some_iff.mp hp).1
    have hj := (List.getElem?_eq_some_iff.mp hq).1
    simp only [wo_rz, List.length_mapIdx, wo_len] at hi hj
    simp only [wo_rz, List.getElem?_mapIdx] at hp hq
    obtain ⟨a, -, rfl⟩ := Option.map_eq_some_iff.mp hp
    obtain ⟨b, -, rfl⟩ := Option.map_eq_some_iff.mp hq
    exact h i j hi hj e
  · have hi := (List.getElem?_eq_some_iff.mp hq).1
    simp only [wo_rz, List.length_mapIdx, wo_len] at hi
    simp only [wo_rz, List.getElem?_mapIdx] at hq
    obtain ⟨a, -, rfl⟩ := Option.map_eq_some_iff.mp hq
    exact ⟨k, hi, rfl⟩
theorem wo_st_moved {g : wo_G} {u U : State} {H : Heap} (hvm : u.vm.Alike U.vm) (h : wo_st g u H) : wo_st g U H := ⟨h.1.moved hvm, h.2.1.moved hvm, h.2.2.1.moved hvm, h.2.2.2.moved hvm⟩
theorem wo_st_kept {g : wo_G} {U : State} {H H1 : Heap} (h : wo_st g U H) (hq : ∀ a : Nat, a < H.size → ¬ wo_A g a → H1[a]? = H[a]?) : wo_st g U H1 := ⟨h.1.kept hq, h.2.1.kept hq, h.2.2.1.kept hq, h.2.2.2.kept hq⟩
theorem wo_nest_warm {s U : State} (hW : s.WarmedH U.vm) (h : wo_nest s) : wo_nest U := ⟨fun q hq => va_Nw.warmF hW (h.1 q hq), fun q hq => va_Nw.warmM hW (h.2 q hq)⟩
theorem wo_nest_same {s U : State} (hv : s.vm = U.vm) (h : wo_nest s) : wo_nest U := ⟨fun q hq => va_Nw.same rfl hv (h.1 q hq), fun q hq => va_Nw.same rfl hv (h.2 q hq)⟩
/-! ===== the words that every method has ===== -/
def jj_tb : List Cond := lw_tbl.filter goodWord
theorem jj_mem {w : Cond} (h : w ∈ lw_tbl) (hg : goodWord w = true) : w ∈ jj_tb := List.mem_filter.mpr ⟨h, hg⟩
theorem jj_good : ∀ w ∈ jj_tb, goodWord w = true := fun w h => (List.mem_filter.mp h).2
/-- a method: its name, code, locals, type of its answer, frames and locals below it -/
abbrev jj_M : Type := MethodName × ByteArray × Nat × Option FieldType × Nat × Nat
def jj_ws (M : jj_M) : List Cond := Cond.code M.1 M.2.1 M.2.2.1 M.2.2.2.1 :: jj_tb
def jj_rm (M : jj_M) : Room := { frames := M.2.2.2.2.1, cells := 0, slots := 0, locals := M.2.2.2.2.2 }
abbrev jj_K : Type := wo_G × Launch
def jj_Q (g : wo_G) (P : Option Value → wo_T → Prop) : Array Value → State → Outcome → State → Prop := fun _ st oc t => (∃ (r : Option Value) (w : wo_T), oc = .returned (r.map (wo_mv g.1)) ∧ P r w ∧ va_P g.2.1 vwCl (wo_rz g w) t.heap) ∧ va_F (wo_A g) st t
def jj_P (g : wo_G) (as : List Value) (w : wo_T) : Array Value → State → Prop := fun v U => v = (as.map (wo_mv g.1)).toArray ∧ wo_at g w U
/-- a call of M with these arguments in this world ends, with P -/
def jj_C (K : jj_K) (M : jj_M) (as : List Value) (w : wo_T) (P : Option Value → wo_T → Prop) : Prop := Met K.2 M.1 (jj_ws M) (jj_rm M) (jj_P K.1 as w) (jj_Q K.1 P) 0 0 (wo_A K.1)
def jj_Ci (K : jj_K) (M : jj_M) (as : List Value) (w : wo_T) (P : Int32 → wo_T → Prop) : Prop := jj_C K M as w (fun r w => ∃ v, r = some (.int v) ∧ P v w)
def jj_Cl (K : jj_K) (M : jj_M) (as : List Value) (w : wo_T) (P : Int64 → wo_T → Prop) : Prop := jj_C K M as w (fun r w => ∃ v, r = some (.long v) ∧ P v w)
def jj_Cv (K : jj_K) (M : jj_M) (as : List Value) (w : wo_T) (P : wo_T → Prop) : Prop := jj_C K M as w (fun r w => r = none ∧ P w)
def jj_X (K : jj_K) (M : jj_M) (p : Program) (s : State) (m : MethodId) (args : Array Value) (meth : Method) (c : Code) : Prop :=
  p.tables.exec = Jvm.exec ∧ c.code = M.2.1 ∧ c.maxLocals = M.2.2.1 ∧ s.vm.findClass M.1.cls = some m.cls ∧ (∀ w ∈ jj_tb, w.before args s = true) ∧ meth.sig.returnType = M.2.2.2.1 ∧ meth.locks = false ∧ wo_S K.1 s
def jj_lm (K : jj_K) (l : List (Nat × Value)) : List (Nat × Value) := l.map (fun q => (q.1, wo_mv K.1.1 q.2))
/-- from here on M comes to its end, with P -/
def jj_J (K : jj_K) (M : jj_M) (P : Option Value → wo_T → Prop) (pc : Nat) (l : List (Nat × Value)) (st : List Value) (w : wo_T) : Prop :=
  ∀ (p : Program) (e : Env) (s : State) (m : MethodId) (args : Array Value) (below : List Frame) (meth : Method) (c : Code), jj_X K M p s m args meth c →
    ∀ (H : Heap) (locs : List Loc) (ls : Array Slot), va_P K.1.2.1 vwCl (wo_rz K.1 w) H → va_S (wo_A K.1) s.heap H locs → lv_has ls M.2.2.1 (jj_lm K l) →
      W p K.2 e (jj_rm M) s m args below meth c H locs 0 0 (MQ below (jj_Q K.1 P) args s 0 0 (wo_A K.1)) (F0 m pc ls (st.map (wo_mv K.1.1)))
theorem wo_mv_cat (ad : Nat → Nat) (v : Value) : (wo_mv ad v).category = v.category := by cases v <;> rfl
theorem jj_lm_args (K : jj_K) (as : List Value) : ∀ i, lv_args i (as.map (wo_mv K.1.1)) = jj_lm K (lv_args i as) := by
  induction as with
  | nil => intro i; rfl
  | cons v vs ih =>
    intro i
    simp only [List.map_cons, lv_args, jj_lm, wo_mv_cat]
    rw [ih]
    rfl
theorem jj_sl_len (ad : Nat → Nat) (as : List Value) : (lg_sl (as.map (wo_mv ad))).length = (lg_sl as).length := by
  induction as with
  | nil => rfl
  | cons v vs ih =>
    simp only [lg_sl, List.map_cons, List.flatMap_cons, List.length_append, wo_mv_cat] at ih ⊢
    rw [ih]
    split <;> rfl
theorem jj_blind (g : wo_G) (as : List Value) (w : wo_T) : FrameBlind (jj_P g as w) := by
  intro a U fr mk h
  obtain ⟨h1, h2, h3, h4, h5, h6⟩ := h
  exact ⟨h1, h2, va_K.moved (u := U) (U := U.calling fr mk a) (Vm.Alike.refl U.vm) h3, h4, wo_st_moved (u := U) (U := U.calling fr mk a) (Vm.Alike.refl U.vm) h5, wo_nest_same (U := U.calling fr mk a) rfl h6⟩
theorem jj_at {K : jj_K} {M : jj_M} {p : Program} {s : State} {m : MethodId} {args : Array Value} {meth : Method} {c : Code} {H : Heap} {locs : List Loc} {w : wo_T} (X : jj_X K M p s m args meth c) (hP : va_P K.1.2.1 vwCl (wo_rz K.1 w) H) (hS : va_S (wo_A K.1) s.heap H locs) (as : List Value) : ∀ U : State, U.heap = H → s.WarmedH U.vm → jj_P K.1 as w (as.map (wo_mv K.1.1)).toArray U := by
  intro U hU hW
  obtain ⟨-, -, -, -, -, -, -, hK, hd, hst, hn⟩ := X
  refine ⟨rfl, by rw [hU]; exact hP, hK.moved hW.alike, hd, ?_, wo_nest_warm hW hn⟩
  rw [hU]
  exact wo_st_kept (wo_st_moved hW.alike hst) hS.2.1
theorem jj_C_intro {K : jj_K} {M : jj_M} {as : List Value} {w : wo_T} {P : Option Value → wo_T → Prop} (hy : plainName M.1.cls = true) (hlen : (lg_sl as).length ≤ M.2.2.1) (k : jj_J K M P 0 (lv_args 0 as) [] w) : jj_C K M as w P := by
  refine Met.ofW (cc := M.2.1) (maxL := M.2.2.1) (ret := M.2.2.2.1) (ws' := jj_tb) hy rfl ?_
  intro p e s m args below meth c s₁ B hml hv
  obtain ⟨rfl, hP, hS⟩ := hv
  have hts := atoms_spec (ws := jj_ws M) B.pre
  have hl := lv_entry (as.map (wo_mv K.1.1)) (n := M.2.2.1) (by rw [jj_sl_len]; exact hlen)
  rw [jj_lm_args] at hl
  rw [lg_entry_eq]
  exact k p e s m _ below meth c ⟨B.exec, B.bytes, hml, findClass_of_methodNamed B.named, fun w h => hts w (List.mem_cons_of_mem _ h), B.returns, B.notSynchronized, hS⟩ s.heap [] _ hP va_S.rf hl
theorem jj_Ci_intro {K : jj_K} {M : jj_M} {as : List Value} {w : wo_T} {P : Int32 → wo_T → Prop} (hy : plainName M.1.cls = true) (hlen : (lg_sl as).length ≤ M.2.2.1) (k : jj_J K M (fun r w => ∃ v, r = some (.int v) ∧ P v w) 0 (lv_args 0 as) [] w) : jj_Ci K M as w P := jj_C_intro hy hlen k
theorem jj_Cl_intro {K : jj_K} {M : jj_M} {as : List Value} {w : wo_T} {P : Int64 → wo_T → Prop} (hy : plainName M.1.cls = true) (hlen : (lg_sl as).length ≤ M.2.2.1) (k : jj_J K M (fun r w => ∃ v, r = some (.long v) ∧ P v w) 0 (lv_args 0 as) [] w) : jj_Cl K M as w P := jj_C_intro hy hlen k
theorem jj_Cv_intro {K : jj_K} {M : jj_M} {as : List Value} {w : wo_T} {P : wo_T → Prop} (hy : plainName M.1.cls = true) (hlen : (lg_sl as).length ≤ M.2.2.1) (k : jj_J K M (fun r w => r = none ∧ P w) 0 (lv_args 0 as) [] w) : jj_Cv K M as w P := jj_C_intro hy hlen k

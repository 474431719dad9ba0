/-! ===== calls by the type of the answer; nest mates; arraycopy; names for values ===== -/
abbrev jj_Ri (R : Int32 → wo_T → Prop) : Option Value → wo_T → Prop := fun r w => ∃ v, r = some (.int v) ∧ R v w
abbrev jj_Rl (R : Int64 → wo_T → Prop) : Option Value → wo_T → Prop := fun r w => ∃ v, r = some (.long v) ∧ R v w
abbrev jj_Rv (R : wo_T → Prop) : Option Value → wo_T → Prop := fun r w => r = none ∧ R w
section
variable {K : jj_K} {M : jj_M} {P : Option Value → wo_T → Prop} {pc : Nat} {l : List (Nat × Value)} {st : List Value} {w : wo_T}
theorem jj_nmi {x : Int32} (k : ∀ z : Int32, z = x → jj_J K M P pc l (.int z :: st) w) : jj_J K M P pc l (.int x :: st) w := k x rfl
theorem jj_nml {x : Int64} (k : ∀ z : Int64, z = x → jj_J K M P pc l (.long z :: st) w) : jj_J K M P pc l (.long x :: st) w := k x rfl
theorem jj_callSN {N : jj_M} {as st0 : List Value} {idx : Nat} {host : String} {R : Option Value → wo_T → Prop} (hd : decode M.2.1 pc = .ok (.invokestatic idx, 3)) (hlk : (M.1.cls, idx, N.1, host) ∈ wo_nM) (hV : jj_U N as.length) (hf : jj_fit M N st = true) (hs : st0 = as.reverse ++ st)
    (hC : jj_C K N as w R) (k : ∀ r w1, R r w1 → jj_J K M P (pc + 3) l (r.toList ++ st) w1) : jj_J K M P pc l st0 w := by
  intro p e s m args below meth c X H locs ls hP hS hl
  obtain ⟨v1, v3, v4, v5⟩ := hV
  obtain ⟨f1, f2, f3⟩ := jj_fit_spec hf
  have hts := X.2.2.2.2.1
  refine jj_after X hS hl (va_runSN (As := as.map (wo_mv K.1.1)) (n := as.length) (Ts := jj_tb) (index := idx) (host := host) (mc := 0) (ms := 0) ⟨X.1, X.2.1, X.2.2.1, X.2.2.2.1, hts⟩ hC ⟨va_cnB as.length hts (jj_gin M N v4) rfl rfl rfl (X.2.2.2.2.2.2.2.2.2.2.2 _ hlk) (hts _ v3) v5 ⟨f1, f2⟩, hts _ v1, trivial⟩ ⟨jj_blind _ _ _, fun U hU hW => jj_at X hP hS as U hU hW⟩ rfl (by simp) hl.1 (by rw [hs]; simp) ?_ hd ⟨Nat.le_refl _, Nat.le_refl _⟩) k
  show 2 * 0 + _ ≤ 8
  rw [jj_cats]
  omega
theorem jj_callVi {N : jj_M} {as st0 : List Value} {b ci idx : Nat} {fs : List Nat} {q : vw_C} {R : Int32 → wo_T → Prop} (hd : decode M.2.1 pc = .ok (.invokevirtual idx, 3)) (hb : wo_lay[b]? = some (.inl (ci, fs))) (hc : vwCl[ci]? = some q) (hq : q.1 = N.1.cls) (hlk : Cond.methodLink M.1.cls idx N.1 ∈ jj_tb) (hV : jj_V N as.length) (hf : jj_fit M N st = true) (hs : st0 = as.reverse ++ .ref b :: st)
    (hC : jj_Ci K N (.ref b :: as) w R) (k : ∀ v w1, R v w1 → jj_J K M P (pc + 3) l (.int v :: st) w1) : jj_J K M P pc l st0 w := jj_callV hd hb hc hq hlk hV hf hs hC (fun r w1 h => by obtain ⟨v, rfl, h⟩ := h; exact k v w1 h)
theorem jj_callVl {N : jj_M} {as st0 : List Value} {b ci idx : Nat} {fs : List Nat} {q : vw_C} {R : Int64 → wo_T → Prop} (hd : decode M.2.1 pc = .ok (.invokevirtual idx, 3)) (hb : wo_lay[b]? = some (.inl (ci, fs))) (hc : vwCl[ci]? = some q) (hq : q.1 = N.1.cls) (hlk : Cond.methodLink M.1.cls idx N.1 ∈ jj_tb) (hV : jj_V N as.length) (hf : jj_fit M N st = true) (hs : st0 = as.reverse ++ .ref b :: st)
    (hC : jj_Cl K N (.ref b :: as) w R) (k : ∀ v w1, R v w1 → jj_J K M P (pc + 3) l (.long v :: st) w1) : jj_J K M P pc l st0 w := jj_callV hd hb hc hq hlk hV hf hs hC (fun r w1 h => by obtain ⟨v, rfl, h⟩ := h; exact k v w1 h)
theorem jj_callVv {N : jj_M} {as st0 : List Value} {b ci idx : Nat} {fs : List Nat} {q : vw_C} {R : wo_T → Prop} (hd : decode M.2.1 pc = .ok (.invokevirtual idx, 3)) (hb : wo_lay[b]? = some (.inl (ci, fs))) (hc : vwCl[ci]? = some q) (hq : q.1 = N.1.cls) (hlk : Cond.methodLink M.1.cls idx N.1 ∈ jj_tb) (hV : jj_V N as.length) (hf : jj_fit M N st = true) (hs : st0 = as.reverse ++ .ref b :: st)
    (hC : jj_Cv K N (.ref b :: as) w R) (k : ∀ w1, R w1 → jj_J K M P (pc + 3) l st w1) : jj_J K M P pc l st0 w := jj_callV hd hb hc hq hlk hV hf hs hC (fun r w1 h => by obtain ⟨rfl, h⟩ := h; exact k w1 h)
theorem jj_callSi {N : jj_M} {as st0 : List Value} {idx : Nat} {R : Int32 → wo_T → Prop} (hd : decode M.2.1 pc = .ok (.invokestatic idx, 3)) (hlk : Cond.methodLink M.1.cls idx N.1 ∈ jj_tb) (hV : jj_U N as.length) (hf : jj_fit M N st = true) (hs : st0 = as.reverse ++ st)
    (hC : jj_Ci K N as w R) (k : ∀ v w1, R v w1 → jj_J K M P (pc + 3) l (.int v :: st) w1) : jj_J K M P pc l st0 w := jj_callS hd hlk hV hf hs hC (fun r w1 h => by obtain ⟨v, rfl, h⟩ := h; exact k v w1 h)
theorem jj_callSl {N : jj_M} {as st0 : List Value} {idx : Nat} {R : Int64 → wo_T → Prop} (hd : decode M.2.1 pc = .ok (.invokestatic idx, 3)) (hlk : Cond.methodLink M.1.cls idx N.1 ∈ jj_tb) (hV : jj_U N as.length) (hf : jj_fit M N st = true) (hs : st0 = as.reverse ++ st)
    (hC : jj_Cl K N as w R) (k : ∀ v w1, R v w1 → jj_J K M P (pc + 3) l (.long v :: st) w1) : jj_J K M P pc l st0 w := jj_callS hd hlk hV hf hs hC (fun r w1 h => by obtain ⟨v, rfl, h⟩ := h; exact k v w1 h)
theorem jj_callSNl {N : jj_M} {as st0 : List Value} {idx : Nat} {host : String} {R : Int64 → wo_T → Prop} (hd : decode M.2.1 pc = .ok (.invokestatic idx, 3)) (hlk : (M.1.cls, idx, N.1, host) ∈ wo_nM) (hV : jj_U N as.length) (hf : jj_fit M N st = true) (hs : st0 = as.reverse ++ st)
    (hC : jj_Cl K N as w R) (k : ∀ v w1, R v w1 → jj_J K M P (pc + 3) l (.long v :: st) w1) : jj_J K M P pc l st0 w := jj_callSN hd hlk hV hf hs hC (fun r w1 h => by obtain ⟨v, rfl, h⟩ := h; exact k v w1 h)
/-- n items of the cell a, from i on, come to the cell b, from j on -/
def wo_cp (w : wo_T) (a i b j n : Nat) : wo_T := (w.1, fun c q => if c = b then va_cpy (w.2 a) (w.2 b) i j n q else w.2 c q)
theorem jj_copy {o1 o2 n1 n2 b1 d1 b2 d2 idx : Nat} {sp dp n : Int32} (hd : decode M.2.1 pc = .ok (.invokestatic idx, 3)) (hlk : Cond.methodLink M.1.cls idx arraycopyName ∈ jj_tb) (hnat : Cond.native arraycopyName ∈ jj_tb) (hst : Cond.static arraycopyName ∈ jj_tb) (hini : Cond.initialized "java/lang/System" ∈ jj_tb)
    (h1 : wo_lay[o1]? = some (.inr (1, n1, b1, d1))) (h2 : wo_lay[o2]? = some (.inr (1, n2, b2, d2))) (hsp : ¬ sp < 0) (hdp : ¬ dp < 0) (hn : ¬ n < 0) (ha : sp.toNatClampNeg + n.toNatClampNeg ≤ n1) (hb : dp.toNatClampNeg + n.toNatClampNeg ≤ n2) (hf : 1 ≤ M.2.2.2.2.1) (hlo : (st.map fun v => v.category).sum + (nativeFrameWords "java/lang/System" "arraycopy" 5 + 11) ≤ M.2.2.2.2.2)
    (k : jj_J K M P (pc + 3) l st (wo_cp w o1 sp.toNatClampNeg o2 dp.toNatClampNeg n.toNatClampNeg)) : jj_J K M P pc l (.int n :: .int dp :: .ref o2 :: .int sp :: .ref o1 :: st) w := by
  intro p e s m args below meth c X H locs ls hP hS hl
  have hts := X.2.2.2.2.1
  refine va_copyl X.1 X.2.1 (X.2.2.1.trans hl.1.symm) X.2.2.2.1 (hts _ hlk) (hts _ hnat) (hts _ hst) (hts _ hini) X.2.2.2.2.2.2.2.1 hP (wo_D X.2.2.2.2.2.2.2.2.1) hS o1 o2 1 1 (wo_get h1) (wo_get h2) rfl rfl rfl hsp hdp hn ha hb (fun _ _ => rfl) hf (by rw [jj_cats]; exact hlo) hd (fun H1 locs1 hP1 _ hS1 => ?_)
  have hP2 : va_P K.1.2.1 vwCl (wo_rz K.1 (wo_cp w o1 sp.toNatClampNeg o2 dp.toNatClampNeg n.toNatClampNeg)) H1 := by
    rw [← wo_set (w := w) (w' := wo_cp w o1 sp.toNatClampNeg o2 dp.toNatClampNeg n.toNatClampNeg) (e := .inl (K.1.2.2 1, n2, .inr (.inl (va_cpy (w.2 o1) (w.2 o2) sp.toNatClampNeg dp.toNatClampNeg n.toNatClampNeg)))) h2 (by simp [wo_cell, wo_cp]) (fun b h => rfl) (fun b h => by funext q; simp [wo_cp, h])]
    exact hP1
  exact k p e s m args below meth c X H1 locs1 ls hP2 hS1 hl
end
theorem jj_swo {x : Int32} (n : Nat) (hn : n < 1000) (h : ∀ j, j < n → ¬ x = nI j) : x.toInt < 0 ∨ ((n : Int) - 1) < x.toInt := by
  rcases Int.lt_or_le x.toInt 0 with h0 | h0
  · exact Or.inl h0
  · rcases Int.lt_or_le ((n : Int) - 1) x.toInt with h1 | h1
    · exact Or.inr h1
    · exfalso
      refine h x.toInt.toNat (by omega) ?_
      apply Int32.toInt_inj.mp
      rw [nI_toInt (by omega)]
      omega
/-! ===== cells that are known by a row's place only ===== -/
theorem wo_l10 : ∀ j, j < 8 → wo_lay[10 + 1 * j]? = some (.inr (1, 110, 0, 0)) := fun j h => match j, h with | 0, _ => rfl | 1, _ => rfl | 2, _ => rfl | 3, _ => rfl | 4, _ => rfl | 5, _ => rfl | 6, _ => rfl | 7, _ => rfl | j + 8, h => absurd h (by omega)
theorem wo_l37 : ∀ j, j < 10 → wo_lay[37 + 1 * j]? = some (.inr (1, 11, 0, 0)) := fun j h => match j, h with | 0, _ => rfl | 1, _ => rfl | 2, _ => rfl | 3, _ => rfl | 4, _ => rfl | 5, _ => rfl | 6, _ => rfl | 7, _ => rfl | 8, _ => rfl | 9, _ => rfl | j + 10, h => absurd h (by omega)
theorem wo_l50 : ∀ j, j < 4 → wo_lay[50 + 2 * j]? = some (.inl (4, [(50 + 2 * j + 1) + 2, 0, 0, 0])) := fun j h => match j, h with | 0, _ => rfl | 1, _ => rfl | 2, _ => rfl | 3, _ => rfl | j + 4, h => absurd h (by omega)
theorem wo_l51 : ∀ j, j < 4 → wo_lay[50 + 2 * j + 1]? = some (.inr (1, 40, 0, 0)) := fun j h => match j, h with | 0, _ => rfl | 1, _ => rfl | 2, _ => rfl | 3, _ => rfl | j + 4, h => absurd h (by omega)
theorem wo_inlt {i : Int32} {n : Nat} (h : vp_in i n) : i.toNatClampNeg < n := Nat.not_le.mp fun q => h (Or.inr q)
theorem wo_lB {o : Nat} (ho : o = 23 ∨ o = 29) : wo_lay[o]? = some (.inl (0, [o + 1 + 2, o + 2 + 2, o + 3 + 2, o + 4 + 2, 1, 10, o + 5 + 2, 0, 0, 0, 0])) := by rcases ho with rfl | rfl <;> rfl
theorem wo_lB1 {o : Nat} (ho : o = 23 ∨ o = 29) : wo_lay[o + 1]? = some (.inr (0, 252, 0, 0)) := by rcases ho with rfl | rfl <;> rfl
theorem wo_lB2 {o : Nat} (ho : o = 23 ∨ o = 29) : wo_lay[o + 2]? = some (.inr (1, 252, 0, 0)) := by rcases ho with rfl | rfl <;> rfl
theorem wo_lB3 {o : Nat} (ho : o = 23 ∨ o = 29) : wo_lay[o + 3]? = some (.inr (1, 252, 0, 0)) := by rcases ho with rfl | rfl <;> rfl
theorem wo_lB4 {o : Nat} (ho : o = 23 ∨ o = 29) : wo_lay[o + 4]? = some (.inr (1, 10, 0, 0)) := by rcases ho with rfl | rfl <;> rfl
theorem wo_lB5 {o : Nat} (ho : o = 23 ∨ o = 29) : wo_lay[o + 5]? = some (.inr (0, 8, 0, 0)) := by rcases ho with rfl | rfl <;> rfl
/-! ===== Math.min, Math.abs ===== -/
theorem jj_mmin {K : jj_K} {M : jj_M} {P : Option Value → wo_T → Prop} {pc : Nat} {l : List (Nat × Value)} {st : List Value} {w : wo_T} {idx : Nat} {x y : Int32} (hd : decode M.2.1 pc = .ok (.invokestatic idx, 3)) (hlk : Cond.methodLink M.1.cls idx Lib.Math.min.name ∈ jj_tb) (hst : Cond.static Lib.Math.min.name ∈ jj_tb) (hini : Cond.initialized "java/lang/Math" ∈ jj_tb) (hco : Cond.code Lib.Math.min.name Lib.Math.min.code 2 (some .int) ∈ jj_tb) (hf : 1 ≤ M.2.2.2.2.1) (hlo : (st.map fun v => v.category).sum + 13 ≤ M.2.2.2.2.2)
    (k : jj_J K M P (pc + 3) l (.int (if y < x then y else x) :: st) w) : jj_J K M P pc l (.int y :: .int x :: st) w := by
  intro p e s m args below meth c X H locs ls hP hS hl
  have hts := X.2.2.2.2.1
  exact va_mmin X.1 X.2.1 (X.2.2.1.trans hl.1.symm) X.2.2.2.1 (hts _ hlk) (hts _ hst) (hts _ hini) (hts _ hco) hf (by rw [jj_cats]; exact hlo) (Nat.zero_le _) (Nat.zero_le _) hd (k p e s m args below meth c X H locs ls hP hS hl)
theorem jj_mabs {K : jj_K} {M : jj_M} {P : Option Value → wo_T → Prop} {pc : Nat} {l : List (Nat × Value)} {st : List Value} {w : wo_T} {idx : Nat} {x : Int64} (hd : decode M.2.1 pc = .ok (.invokestatic idx, 3)) (hlk : Cond.methodLink M.1.cls idx Lib.MathLoose.abs_long.x ∈ jj_tb) (hst : Cond.static Lib.MathLoose.abs_long.x ∈ jj_tb) (hini : Cond.initialized "java/lang/Math" ∈ jj_tb) (hco : Cond.code Lib.MathLoose.abs_long.x Lib.MathLoose.abs_long.code 2 (some .long) ∈ jj_tb) (hf : 1 ≤ M.2.2.2.2.1) (hlo : (st.map fun v => v.category).sum + 13 ≤ M.2.2.2.2.2)
    (k : jj_J K M P (pc + 3) l (.long (if 0 < x then x else -x) :: st) w) : jj_J K M P pc l (.long x :: st) w := by
  intro p e s m args below meth c X H locs ls hP hS hl
  have hts := X.2.2.2.2.1
  exact va_mabs_long X.1 X.2.1 (X.2.2.1.trans hl.1.symm) X.2.2.2.1 (hts _ hlk) (hts _ hst) (hts _ hini) (hts _ hco) hf (by rw [jj_cats]; exact hlo) (Nat.zero_le _) (Nat.zero_le _) hd (k p e s m args below meth c X H locs ls hP hS hl)

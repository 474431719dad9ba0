/-! ===== where the cells lie ===== -/
def kg_p : List Nat := [72, 50, 56, 55, 54, 53, 52, 51, 57, 63, 64, 65, 66, 67, 68, 69, 70, 71, 62, 61, 60, 59, 58, 44, 49, 48, 47, 46, 45, 38, 43, 42, 41, 40, 39, 25, 27, 28, 29, 30, 31, 32, 33, 34, 35, 36, 37, 26, 24, 23, 21, 22, 19, 20, 17, 18, 15, 16, 0, 14, 13, 12, 11, 10, 9, 8, 7, 6, 5, 4, 3, 2, 1]
def kg (ws : va_W) (b t1 t2 : Nat) : Nat → Nat := fun o => if o = 200 then b else if o = 100 then t1 else if o = 101 then t2 else match ws[kg_p.getD o 0]? with | some q => q.1 | none => 0
theorem kg_inj : ∀ i, i < 73 → ∀ j, j < 73 → kg_p.getD i 0 = kg_p.getD j 0 → i = j := by decide +kernel
theorem kg_lt : ∀ i, i < 73 → kg_p.getD i 0 < 73 := by decide +kernel
theorem kg_at {ws : va_W} {b t1 t2 o : Nat} (hl : ws.length = 73) (ho : o < 73) : ∃ q, ws[kg_p.getD o 0]? = some q ∧ kg ws b t1 t2 o = q.1 := by
  have h1 : kg_p.getD o 0 < ws.length := by rw [hl]; exact kg_lt o ho
  refine ⟨ws[kg_p.getD o 0], List.getElem?_eq_getElem h1, ?_⟩
  unfold kg
  rw [if_neg (by omega), if_neg (by omega), if_neg (by omega), List.getElem?_eq_getElem h1]
theorem kg_dis {ws : va_W} {A : Nat → Prop} {b t1 t2 : Nat} (hl : ws.length = 73) (hD : va_D A ws) : ∀ i j, i < 73 → j < 73 → kg ws b t1 t2 i = kg ws b t1 t2 j → i = j := by
  intro i j hi hj e
  obtain ⟨p, p1, p2⟩ := kg_at (b := b) (t1 := t1) (t2 := t2) hl hi
  obtain ⟨q, q1, q2⟩ := kg_at (b := b) (t1 := t1) (t2 := t2) hl hj
  exact kg_inj i hi j hj (hD.1 _ _ p q p1 q1 (by rw [← p2, ← q2]; exact e))
theorem kg_A {ws : va_W} {A : Nat → Prop} {b t1 t2 : Nat} (hl : ws.length = 73) (hD : va_D A ws) : ∀ i, i < 73 → A (kg ws b t1 t2 i) := by
  intro i hi
  obtain ⟨p, p1, p2⟩ := kg_at (b := b) (t1 := t1) (t2 := t2) hl hi
  rw [p2]
  exact hD.2 _ p p1
section
variable {Z : kn_Z} {H : Heap}
abbrev kw_all (Z : kn_Z) (h hm : Nat) (am : Nat → Nat) (q1 : Nat) (a2 : Nat → Nat) (r2 : Nat → Nat) (q3 : Nat) (a4 : Nat → Nat) (q5 : Nat) (a6 : Nat → Nat) (q7 : Nat) (a8 : Nat → Nat) (q9 : Nat) (a10 : Nat → Nat) (r10 : Nat → Nat) (q11 : Nat) (q13 : Nat) (q14 : Nat) (a15 : Nat → Nat) (q16 : Nat) (a17 : Nat → Nat) (q18 : Nat) (a19 : Nat → Nat) (q20 : Nat) (a21 : Nat → Nat) : va_W := kw7 Z hm am (kw6 Z h q1 a2 r2 q3 a4 q5 a6 q7 a8 q9 a10 r10 q11 q13 q14 a15 q16 a17 q18 a19 q20 a21)
set_option maxRecDepth 100000 in
set_option maxHeartbeats 8000000 in
theorem kg_P (b t1 t2 h hm : Nat) (am : Nat → Nat) (q1 : Nat) (a2 : Nat → Nat) (r2 : Nat → Nat) (q3 : Nat) (a4 : Nat → Nat) (q5 : Nat) (a6 : Nat → Nat) (q7 : Nat) (a8 : Nat → Nat) (q9 : Nat) (a10 : Nat → Nat) (r10 : Nat → Nat) (q11 : Nat) (q13 : Nat) (q14 : Nat) (a15 : Nat → Nat) (q16 : Nat) (a17 : Nat → Nat) (q18 : Nat) (a19 : Nat → Nat) (q20 : Nat) (a21 : Nat → Nat) (hP : va_P Z.1 vwCl (kw_all Z h hm am q1 a2 r2 q3 a4 q5 a6 q7 a8 q9 a10 r10 q11 q13 q14 a15 q16 a17 q18 a19 q20 a21) H) : va_P Z.1 vwCl (wo_rz (kg (kw_all Z h hm am q1 a2 r2 q3 a4 q5 a6 q7 a8 q9 a10 r10 q11 q13 q14 a15 q16 a17 q18 a19 q20 a21) b t1 t2, Z.1, Z.2.1) wo_0) H := by
  generalize hgw : kg (kw_all Z h hm am q1 a2 r2 q3 a4 q5 a6 q7 a8 q9 a10 r10 q11 q13 q14 a15 q16 a17 q18 a19 q20 a21) b t1 t2 = ad
  have z0 : ad 0 = h := by rw [← hgw]; rfl
  have z1 : ad 1 = q3 := by rw [← hgw]; rfl
  have z2 : ad 2 = a4 0 := by rw [← hgw]; rfl
  have z3 : ad 3 = a4 1 := by rw [← hgw]; rfl
  have z4 : ad 4 = a4 2 := by rw [← hgw]; rfl
  have z5 : ad 5 = a4 3 := by rw [← hgw]; rfl
  have z6 : ad 6 = a4 4 := by rw [← hgw]; rfl
  have z7 : ad 7 = a4 5 := by rw [← hgw]; rfl
  have z8 : ad 8 = q1 := by rw [← hgw]; rfl
  have z9 : ad 9 = a2 0 := by rw [← hgw]; rfl
  have z10 : ad 10 = r2 0 := by rw [← hgw]; rfl
  have z11 : ad 11 = r2 1 := by rw [← hgw]; rfl
  have z12 : ad 12 = r2 2 := by rw [← hgw]; rfl
  have z13 : ad 13 = r2 3 := by rw [← hgw]; rfl
  have z14 : ad 14 = r2 4 := by rw [← hgw]; rfl
  have z15 : ad 15 = r2 5 := by rw [← hgw]; rfl
  have z16 : ad 16 = r2 6 := by rw [← hgw]; rfl
  have z17 : ad 17 = r2 7 := by rw [← hgw]; rfl
  have z18 : ad 18 = a2 1 := by rw [← hgw]; rfl
  have z19 : ad 19 = a2 2 := by rw [← hgw]; rfl
  have z20 : ad 20 = a2 3 := by rw [← hgw]; rfl
  have z21 : ad 21 = a2 4 := by rw [← hgw]; rfl
  have z22 : ad 22 = a2 5 := by rw [← hgw]; rfl
  have z23 : ad 23 = q5 := by rw [← hgw]; rfl
  have z24 : ad 24 = a6 0 := by rw [← hgw]; rfl
  have z25 : ad 25 = a6 1 := by rw [← hgw]; rfl
  have z26 : ad 26 = a6 2 := by rw [← hgw]; rfl
  have z27 : ad 27 = a6 3 := by rw [← hgw]; rfl
  have z28 : ad 28 = a6 4 := by rw [← hgw]; rfl
  have z29 : ad 29 = q7 := by rw [← hgw]; rfl
  have z30 : ad 30 = a8 0 := by rw [← hgw]; rfl
  have z31 : ad 31 = a8 1 := by rw [← hgw]; rfl
  have z32 : ad 32 = a8 2 := by rw [← hgw]; rfl
  have z33 : ad 33 = a8 3 := by rw [← hgw]; rfl
  have z34 : ad 34 = a8 4 := by rw [← hgw]; rfl
  have z35 : ad 35 = q9 := by rw [← hgw]; rfl
  have z36 : ad 36 = a10 0 := by rw [← hgw]; rfl
  have z37 : ad 37 = r10 0 := by rw [← hgw]; rfl
  have z38 : ad 38 = r10 1 := by rw [← hgw]; rfl
  have z39 : ad 39 = r10 2 := by rw [← hgw]; rfl
  have z40 : ad 40 = r10 3 := by rw [← hgw]; rfl
  have z41 : ad 41 = r10 4 := by rw [← hgw]; rfl
  have z42 : ad 42 = r10 5 := by rw [← hgw]; rfl
  have z43 : ad 43 = r10 6 := by rw [← hgw]; rfl
  have z44 : ad 44 = r10 7 := by rw [← hgw]; rfl
  have z45 : ad 45 = r10 8 := by rw [← hgw]; rfl
  have z46 : ad 46 = r10 9 := by rw [← hgw]; rfl
  have z47 : ad 47 = a10 1 := by rw [← hgw]; rfl
  have z48 : ad 48 = q11 := by rw [← hgw]; rfl
  have z49 : ad 49 = q13 := by rw [← hgw]; rfl
  have z50 : ad 50 = q14 := by rw [← hgw]; rfl
  have z51 : ad 51 = a15 0 := by rw [← hgw]; rfl
  have z52 : ad 52 = q16 := by rw [← hgw]; rfl
  have z53 : ad 53 = a17 0 := by rw [← hgw]; rfl
  have z54 : ad 54 = q18 := by rw [← hgw]; rfl
  have z55 : ad 55 = a19 0 := by rw [← hgw]; rfl
  have z56 : ad 56 = q20 := by rw [← hgw]; rfl
  have z57 : ad 57 = a21 0 := by rw [← hgw]; rfl
  have z58 : ad 58 = hm := by rw [← hgw]; rfl
  have z59 : ad 59 = am 0 := by rw [← hgw]; rfl
  have z60 : ad 60 = am 1 := by rw [← hgw]; rfl
  have z61 : ad 61 = am 2 := by rw [← hgw]; rfl
  have z62 : ad 62 = am 3 := by rw [← hgw]; rfl
  have z63 : ad 63 = am 4 := by rw [← hgw]; rfl
  have z64 : ad 64 = am 5 := by rw [← hgw]; rfl
  have z65 : ad 65 = am 6 := by rw [← hgw]; rfl
  have z66 : ad 66 = am 7 := by rw [← hgw]; rfl
  have z67 : ad 67 = am 8 := by rw [← hgw]; rfl
  have z68 : ad 68 = am 9 := by rw [← hgw]; rfl
  have z69 : ad 69 = am 10 := by rw [← hgw]; rfl
  have z70 : ad 70 = am 11 := by rw [← hgw]; rfl
  have z71 : ad 71 = am 12 := by rw [← hgw]; rfl
  have z72 : ad 72 = am 13 := by rw [← hgw]; rfl
  have e9 : (fun j => if j < 8 then some (ad (10 + 1 * j)) else none) = fun i => if i < 8 then some (r2 i) else none := by
    funext j
    by_cases hj : j < 8
    · rw [if_pos hj, if_pos hj]
      exact congrArg some (match j, hj with | 0, _ => z10 | 1, _ => z11 | 2, _ => z12 | 3, _ => z13 | 4, _ => z14 | 5, _ => z15 | 6, _ => z16 | 7, _ => z17 | j + 8, q => absurd q (by omega))
    · rw [if_neg hj, if_neg hj]
  have e36 : (fun j => if j < 10 then some (ad (37 + 1 * j)) else none) = fun i => if i < 10 then some (r10 i) else none := by
    funext j
    by_cases hj : j < 10
    · rw [if_pos hj, if_pos hj]
      exact congrArg some (match j, hj with | 0, _ => z37 | 1, _ => z38 | 2, _ => z39 | 3, _ => z40 | 4, _ => z41 | 5, _ => z42 | 6, _ => z43 | 7, _ => z44 | 8, _ => z45 | 9, _ => z46 | j + 10, q => absurd q (by omega))
    · rw [if_neg hj, if_neg hj]
  have e49 : (fun j => if j < 4 then some (ad (50 + 2 * j)) else none) = va_up (va_up (va_up (va_up (fun _ => none) 0 (some q14)) 1 (some q16)) 2 (some q18)) 3 (some q20) := by
    funext j
    match j with
    | 0 => exact congrArg some z50
    | 1 => exact congrArg some z52
    | 2 => exact congrArg some z54
    | 3 => exact congrArg some z56
    | j + 4 =>
      rw [if_neg (by omega)]
      simp [va_up]
  have e69 : wo_0.1 69 = upd (upd (upd (upd (fun _ => 0) 0 (-1)) 1 (-1)) 2 (-1)) 3 (-1) := by
    funext k
    match k with
    | 0 => rfl
    | 1 => rfl
    | 2 => rfl
    | 3 => rfl
    | k + 4 =>
      rw [wz1 (by omega) (by omega) (by omega) (by omega)]
      simp [upd]
  have f0 : va_at Z.1 vwCl (ad 0, wo_cell (ad, Z.1, Z.2.1) wo_0 0 (.inl (6, [3, 25, 31, 37, 50, 51, 0, 0, 0]))) H := by
    have := hP 72 _ rfl
    rw [z0]
    simp only [wo_cell, List.mapIdx_cons, List.mapIdx_nil, wo_fv, z1, z23, z29, z35, z48, z49]
    exact this
  have f1 : va_at Z.1 vwCl (ad 1, wo_cell (ad, Z.1, Z.2.1) wo_0 1 (.inl (3, [4, 5, 6, 7, 8, 9, 0]))) H := by
    have := hP 50 _ rfl
    rw [z1]
    simp only [wo_cell, List.mapIdx_cons, List.mapIdx_nil, wo_fv, z2, z3, z4, z5, z6, z7]
    exact this
  have f2 : va_at Z.1 vwCl (ad 2, wo_cell (ad, Z.1, Z.2.1) wo_0 2 (.inr (0, 10, 0, 0))) H := by
    rw [z2]
    exact hP 56 _ rfl
  have f3 : va_at Z.1 vwCl (ad 3, wo_cell (ad, Z.1, Z.2.1) wo_0 3 (.inr (0, 5, 0, 0))) H := by
    rw [z3]
    exact hP 55 _ rfl
  have f4 : va_at Z.1 vwCl (ad 4, wo_cell (ad, Z.1, Z.2.1) wo_0 4 (.inr (0, 10, 0, 0))) H := by
    rw [z4]
    exact hP 54 _ rfl
  have f5 : va_at Z.1 vwCl (ad 5, wo_cell (ad, Z.1, Z.2.1) wo_0 5 (.inr (0, 10, 0, 0))) H := by
    rw [z5]
    exact hP 53 _ rfl
  have f6 : va_at Z.1 vwCl (ad 6, wo_cell (ad, Z.1, Z.2.1) wo_0 6 (.inr (0, 20, 0, 0))) H := by
    rw [z6]
    exact hP 52 _ rfl
  have f7 : va_at Z.1 vwCl (ad 7, wo_cell (ad, Z.1, Z.2.1) wo_0 7 (.inr (0, 10, 0, 0))) H := by
    rw [z7]
    exact hP 51 _ rfl
  have f8 : va_at Z.1 vwCl (ad 8, wo_cell (ad, Z.1, Z.2.1) wo_0 8 (.inl (5, [11, 20, 21, 22, 23, 24, 0, 0]))) H := by
    have := hP 57 _ rfl
    rw [z8]
    simp only [wo_cell, List.mapIdx_cons, List.mapIdx_nil, wo_fv, z9, z18, z19, z20, z21, z22]
    exact this
  have f9 : va_at Z.1 vwCl (ad 9, wo_cell (ad, Z.1, Z.2.1) wo_0 9 (.inr (4, 8, 10, 1))) H := by
    have := hP 63 _ rfl
    rw [z9]
    simp only [wo_cell]
    rw [e9]
    exact this
  have f10 : va_at Z.1 vwCl (ad 10, wo_cell (ad, Z.1, Z.2.1) wo_0 10 (.inr (1, 110, 0, 0))) H := by
    rw [z10]
    exact hP 64 _ rfl
  have f11 : va_at Z.1 vwCl (ad 11, wo_cell (ad, Z.1, Z.2.1) wo_0 11 (.inr (1, 110, 0, 0))) H := by
    rw [z11]
    exact hP 65 _ rfl
  have f12 : va_at Z.1 vwCl (ad 12, wo_cell (ad, Z.1, Z.2.1) wo_0 12 (.inr (1, 110, 0, 0))) H := by
    rw [z12]
    exact hP 66 _ rfl
  have f13 : va_at Z.1 vwCl (ad 13, wo_cell (ad, Z.1, Z.2.1) wo_0 13 (.inr (1, 110, 0, 0))) H := by
    rw [z13]
    exact hP 67 _ rfl
  have f14 : va_at Z.1 vwCl (ad 14, wo_cell (ad, Z.1, Z.2.1) wo_0 14 (.inr (1, 110, 0, 0))) H := by
    rw [z14]
    exact hP 68 _ rfl
  have f15 : va_at Z.1 vwCl (ad 15, wo_cell (ad, Z.1, Z.2.1) wo_0 15 (.inr (1, 110, 0, 0))) H := by
    rw [z15]
    exact hP 69 _ rfl
  have f16 : va_at Z.1 vwCl (ad 16, wo_cell (ad, Z.1, Z.2.1) wo_0 16 (.inr (1, 110, 0, 0))) H := by
    rw [z16]
    exact hP 70 _ rfl
  have f17 : va_at Z.1 vwCl (ad 17, wo_cell (ad, Z.1, Z.2.1) wo_0 17 (.inr (1, 110, 0, 0))) H := by
    rw [z17]
    exact hP 71 _ rfl
  have f18 : va_at Z.1 vwCl (ad 18, wo_cell (ad, Z.1, Z.2.1) wo_0 18 (.inr (0, 8, 0, 0))) H := by
    rw [z18]
    exact hP 62 _ rfl
  have f19 : va_at Z.1 vwCl (ad 19, wo_cell (ad, Z.1, Z.2.1) wo_0 19 (.inr (0, 8, 0, 0))) H := by
    rw [z19]
    exact hP 61 _ rfl
  have f20 : va_at Z.1 vwCl (ad 20, wo_cell (ad, Z.1, Z.2.1) wo_0 20 (.inr (0, 8, 0, 0))) H := by
    rw [z20]
    exact hP 60 _ rfl
  have f21 : va_at Z.1 vwCl (ad 21, wo_cell (ad, Z.1, Z.2.1) wo_0 21 (.inr (1, 8, 0, 0))) H := by
    rw [z21]
    exact hP 59 _ rfl
  have f22 : va_at Z.1 vwCl (ad 22, wo_cell (ad, Z.1, Z.2.1) wo_0 22 (.inr (1, 8, 0, 0))) H := by
    rw [z22]
    exact hP 58 _ rfl
  have f23 : va_at Z.1 vwCl (ad 23, wo_cell (ad, Z.1, Z.2.1) wo_0 23 (.inl (0, [26, 27, 28, 29, 1, 10, 30, 0, 0, 0, 0]))) H := by
    have := hP 44 _ rfl
    rw [z23]
    simp only [wo_cell, List.mapIdx_cons, List.mapIdx_nil, wo_fv, z8, z24, z25, z26, z27, z28]
    exact this
  have f24 : va_at Z.1 vwCl (ad 24, wo_cell (ad, Z.1, Z.2.1) wo_0 24 (.inr (0, 252, 0, 0))) H := by
    rw [z24]
    exact hP 49 _ rfl
  have f25 : va_at Z.1 vwCl (ad 25, wo_cell (ad, Z.1, Z.2.1) wo_0 25 (.inr (1, 252, 0, 0))) H := by
    rw [z25]
    exact hP 48 _ rfl
  have f26 : va_at Z.1 vwCl (ad 26, wo_cell (ad, Z.1, Z.2.1) wo_0 26 (.inr (1, 252, 0, 0))) H := by
    rw [z26]
    exact hP 47 _ rfl
  have f27 : va_at Z.1 vwCl (ad 27, wo_cell (ad, Z.1, Z.2.1) wo_0 27 (.inr (1, 10, 0, 0))) H := by
    rw [z27]
    exact hP 46 _ rfl
  have f28 : va_at Z.1 vwCl (ad 28, wo_cell (ad, Z.1, Z.2.1) wo_0 28 (.inr (0, 8, 0, 0))) H := by
    rw [z28]
    exact hP 45 _ rfl
  have f29 : va_at Z.1 vwCl (ad 29, wo_cell (ad, Z.1, Z.2.1) wo_0 29 (.inl (0, [32, 33, 34, 35, 1, 10, 36, 0, 0, 0, 0]))) H := by
    have := hP 38 _ rfl
    rw [z29]
    simp only [wo_cell, List.mapIdx_cons, List.mapIdx_nil, wo_fv, z8, z30, z31, z32, z33, z34]
    exact this
  have f30 : va_at Z.1 vwCl (ad 30, wo_cell (ad, Z.1, Z.2.1) wo_0 30 (.inr (0, 252, 0, 0))) H := by
    rw [z30]
    exact hP 43 _ rfl
  have f31 : va_at Z.1 vwCl (ad 31, wo_cell (ad, Z.1, Z.2.1) wo_0 31 (.inr (1, 252, 0, 0))) H := by
    rw [z31]
    exact hP 42 _ rfl
  have f32 : va_at Z.1 vwCl (ad 32, wo_cell (ad, Z.1, Z.2.1) wo_0 32 (.inr (1, 252, 0, 0))) H := by
    rw [z32]
    exact hP 41 _ rfl
  have f33 : va_at Z.1 vwCl (ad 33, wo_cell (ad, Z.1, Z.2.1) wo_0 33 (.inr (1, 10, 0, 0))) H := by
    rw [z33]
    exact hP 40 _ rfl
  have f34 : va_at Z.1 vwCl (ad 34, wo_cell (ad, Z.1, Z.2.1) wo_0 34 (.inr (0, 8, 0, 0))) H := by
    rw [z34]
    exact hP 39 _ rfl
  have f35 : va_at Z.1 vwCl (ad 35, wo_cell (ad, Z.1, Z.2.1) wo_0 35 (.inl (2, [38, 49, 0]))) H := by
    have := hP 25 _ rfl
    rw [z35]
    simp only [wo_cell, List.mapIdx_cons, List.mapIdx_nil, wo_fv, z36, z47]
    exact this
  have f36 : va_at Z.1 vwCl (ad 36, wo_cell (ad, Z.1, Z.2.1) wo_0 36 (.inr (4, 10, 37, 1))) H := by
    have := hP 27 _ rfl
    rw [z36]
    simp only [wo_cell]
    rw [e36]
    exact this
  have f37 : va_at Z.1 vwCl (ad 37, wo_cell (ad, Z.1, Z.2.1) wo_0 37 (.inr (1, 11, 0, 0))) H := by
    rw [z37]
    exact hP 28 _ rfl
  have f38 : va_at Z.1 vwCl (ad 38, wo_cell (ad, Z.1, Z.2.1) wo_0 38 (.inr (1, 11, 0, 0))) H := by
    rw [z38]
    exact hP 29 _ rfl
  have f39 : va_at Z.1 vwCl (ad 39, wo_cell (ad, Z.1, Z.2.1) wo_0 39 (.inr (1, 11, 0, 0))) H := by
    rw [z39]
    exact hP 30 _ rfl
  have f40 : va_at Z.1 vwCl (ad 40, wo_cell (ad, Z.1, Z.2.1) wo_0 40 (.inr (1, 11, 0, 0))) H := by
    rw [z40]
    exact hP 31 _ rfl
  have f41 : va_at Z.1 vwCl (ad 41, wo_cell (ad, Z.1, Z.2.1) wo_0 41 (.inr (1, 11, 0, 0))) H := by
    rw [z41]
    exact hP 32 _ rfl
  have f42 : va_at Z.1 vwCl (ad 42, wo_cell (ad, Z.1, Z.2.1) wo_0 42 (.inr (1, 11, 0, 0))) H := by
    rw [z42]
    exact hP 33 _ rfl
  have f43 : va_at Z.1 vwCl (ad 43, wo_cell (ad, Z.1, Z.2.1) wo_0 43 (.inr (1, 11, 0, 0))) H := by
    rw [z43]
    exact hP 34 _ rfl
  have f44 : va_at Z.1 vwCl (ad 44, wo_cell (ad, Z.1, Z.2.1) wo_0 44 (.inr (1, 11, 0, 0))) H := by
    rw [z44]
    exact hP 35 _ rfl
  have f45 : va_at Z.1 vwCl (ad 45, wo_cell (ad, Z.1, Z.2.1) wo_0 45 (.inr (1, 11, 0, 0))) H := by
    rw [z45]
    exact hP 36 _ rfl
  have f46 : va_at Z.1 vwCl (ad 46, wo_cell (ad, Z.1, Z.2.1) wo_0 46 (.inr (1, 11, 0, 0))) H := by
    rw [z46]
    exact hP 37 _ rfl
  have f47 : va_at Z.1 vwCl (ad 47, wo_cell (ad, Z.1, Z.2.1) wo_0 47 (.inr (0, 10, 0, 0))) H := by
    rw [z47]
    exact hP 26 _ rfl
  have f48 : va_at Z.1 vwCl (ad 48, wo_cell (ad, Z.1, Z.2.1) wo_0 48 (.inl (1, [0, 0, 1, 1, 1]))) H := by
    have := hP 24 _ rfl
    rw [z48]
    simp only [wo_cell, List.mapIdx_cons, List.mapIdx_nil, wo_fv]
    exact this
  have f49 : va_at Z.1 vwCl (ad 49, wo_cell (ad, Z.1, Z.2.1) wo_0 49 (.inr (3, 4, 50, 2))) H := by
    have := hP 23 _ rfl
    rw [z49]
    simp only [wo_cell]
    rw [e49]
    exact this
  have f50 : va_at Z.1 vwCl (ad 50, wo_cell (ad, Z.1, Z.2.1) wo_0 50 (.inl (4, [53, 0, 0, 0]))) H := by
    have := hP 21 _ rfl
    rw [z50]
    simp only [wo_cell, List.mapIdx_cons, List.mapIdx_nil, wo_fv, z51]
    exact this
  have f51 : va_at Z.1 vwCl (ad 51, wo_cell (ad, Z.1, Z.2.1) wo_0 51 (.inr (1, 40, 0, 0))) H := by
    rw [z51]
    exact hP 22 _ rfl
  have f52 : va_at Z.1 vwCl (ad 52, wo_cell (ad, Z.1, Z.2.1) wo_0 52 (.inl (4, [55, 0, 0, 0]))) H := by
    have := hP 19 _ rfl
    rw [z52]
    simp only [wo_cell, List.mapIdx_cons, List.mapIdx_nil, wo_fv, z53]
    exact this
  have f53 : va_at Z.1 vwCl (ad 53, wo_cell (ad, Z.1, Z.2.1) wo_0 53 (.inr (1, 40, 0, 0))) H := by
    rw [z53]
    exact hP 20 _ rfl
  have f54 : va_at Z.1 vwCl (ad 54, wo_cell (ad, Z.1, Z.2.1) wo_0 54 (.inl (4, [57, 0, 0, 0]))) H := by
    have := hP 17 _ rfl
    rw [z54]
    simp only [wo_cell, List.mapIdx_cons, List.mapIdx_nil, wo_fv, z55]
    exact this
  have f55 : va_at Z.1 vwCl (ad 55, wo_cell (ad, Z.1, Z.2.1) wo_0 55 (.inr (1, 40, 0, 0))) H := by
    rw [z55]
    exact hP 18 _ rfl
  have f56 : va_at Z.1 vwCl (ad 56, wo_cell (ad, Z.1, Z.2.1) wo_0 56 (.inl (4, [59, 0, 0, 0]))) H := by
    have := hP 15 _ rfl
    rw [z56]
    simp only [wo_cell, List.mapIdx_cons, List.mapIdx_nil, wo_fv, z57]
    exact this
  have f57 : va_at Z.1 vwCl (ad 57, wo_cell (ad, Z.1, Z.2.1) wo_0 57 (.inr (1, 40, 0, 0))) H := by
    rw [z57]
    exact hP 16 _ rfl
  have f58 : va_at Z.1 vwCl (ad 58, wo_cell (ad, Z.1, Z.2.1) wo_0 58 (.inl (7, [61, 62, 63, 64, 65, 0, 0, 66, 67, 0, 68, 69, 70, 0, 0, 0, 0, 71, 72, 73, 74, 0]))) H := by
    have := hP 0 _ rfl
    rw [z58]
    simp only [wo_cell, List.mapIdx_cons, List.mapIdx_nil, wo_fv, z59, z60, z61, z62, z63, z64, z65, z66, z67, z68, z69, z70, z71, z72]
    exact this
  have f59 : va_at Z.1 vwCl (ad 59, wo_cell (ad, Z.1, Z.2.1) wo_0 59 (.inr (0, 5, 0, 0))) H := by
    rw [z59]
    exact hP 14 _ rfl
  have f60 : va_at Z.1 vwCl (ad 60, wo_cell (ad, Z.1, Z.2.1) wo_0 60 (.inr (0, 5, 0, 0))) H := by
    rw [z60]
    exact hP 13 _ rfl
  have f61 : va_at Z.1 vwCl (ad 61, wo_cell (ad, Z.1, Z.2.1) wo_0 61 (.inr (0, 5, 0, 0))) H := by
    rw [z61]
    exact hP 12 _ rfl
  have f62 : va_at Z.1 vwCl (ad 62, wo_cell (ad, Z.1, Z.2.1) wo_0 62 (.inr (0, 10, 0, 0))) H := by
    rw [z62]
    exact hP 11 _ rfl
  have f63 : va_at Z.1 vwCl (ad 63, wo_cell (ad, Z.1, Z.2.1) wo_0 63 (.inr (0, 10, 0, 0))) H := by
    rw [z63]
    exact hP 10 _ rfl
  have f64 : va_at Z.1 vwCl (ad 64, wo_cell (ad, Z.1, Z.2.1) wo_0 64 (.inr (1, 110, 0, 0))) H := by
    rw [z64]
    exact hP 9 _ rfl
  have f65 : va_at Z.1 vwCl (ad 65, wo_cell (ad, Z.1, Z.2.1) wo_0 65 (.inr (0, 10, 0, 0))) H := by
    rw [z65]
    exact hP 8 _ rfl
  have f66 : va_at Z.1 vwCl (ad 66, wo_cell (ad, Z.1, Z.2.1) wo_0 66 (.inr (2, 1024, 0, 0))) H := by
    rw [z66]
    exact hP 7 _ rfl
  have f67 : va_at Z.1 vwCl (ad 67, wo_cell (ad, Z.1, Z.2.1) wo_0 67 (.inr (1, 1024, 0, 0))) H := by
    rw [z67]
    exact hP 6 _ rfl
  have f68 : va_at Z.1 vwCl (ad 68, wo_cell (ad, Z.1, Z.2.1) wo_0 68 (.inr (1, 1024, 0, 0))) H := by
    rw [z68]
    exact hP 5 _ rfl
  have f69 : va_at Z.1 vwCl (ad 69, wo_cell (ad, Z.1, Z.2.1) wo_0 69 (.inr (0, 4, 0, 0))) H := by
    have := hP 4 _ rfl
    rw [z69]
    simp only [wo_cell]
    rw [e69]
    exact this
  have f70 : va_at Z.1 vwCl (ad 70, wo_cell (ad, Z.1, Z.2.1) wo_0 70 (.inr (0, 4, 0, 0))) H := by
    rw [z70]
    exact hP 3 _ rfl
  have f71 : va_at Z.1 vwCl (ad 71, wo_cell (ad, Z.1, Z.2.1) wo_0 71 (.inr (1, 160, 0, 0))) H := by
    rw [z71]
    exact hP 2 _ rfl
  have f72 : va_at Z.1 vwCl (ad 72, wo_cell (ad, Z.1, Z.2.1) wo_0 72 (.inr (1, 40, 0, 0))) H := by
    rw [z72]
    exact hP 1 _ rfl
  intro k q hk
  rw [wo_rz, List.getElem?_mapIdx] at hk
  obtain ⟨kd, hkd, e⟩ := Option.map_eq_some_iff.mp hk
  subst e
  match k, hkd with
  | 0, hkd => cases hkd; exact f0
  | 1, hkd => cases hkd; exact f1
  | 2, hkd => cases hkd; exact f2
  | 3, hkd => cases hkd; exact f3
  | 4, hkd => cases hkd; exact f4
  | 5, hkd => cases hkd; exact f5
  | 6, hkd => cases hkd; exact f6
  | 7, hkd => cases hkd; exact f7
  | 8, hkd => cases hkd; exact f8
  | 9, hkd => cases hkd; exact f9
  | 10, hkd => cases hkd; exact f10
  | 11, hkd => cases hkd; exact f11
  | 12, hkd => cases hkd; exact f12
  | 13, hkd => cases hkd; exact f13
  | 14, hkd => cases hkd; exact f14
  | 15, hkd => cases hkd; exact f15
  | 16, hkd => cases hkd; exact f16
  | 17, hkd => cases hkd; exact f17
  | 18, hkd => cases hkd; exact f18
  | 19, hkd => cases hkd; exact f19
  | 20, hkd => cases hkd; exact f20
  | 21, hkd => cases hkd; exact f21
  | 22, hkd => cases hkd; exact f22
  | 23, hkd => cases hkd; exact f23
  | 24, hkd => cases hkd; exact f24
  | 25, hkd => cases hkd; exact f25
  | 26, hkd => cases hkd; exact f26
  | 27, hkd => cases hkd; exact f27
  | 28, hkd => cases hkd; exact f28
  | 29, hkd => cases hkd; exact f29
  | 30, hkd => cases hkd; exact f30
  | 31, hkd => cases hkd; exact f31
  | 32, hkd => cases hkd; exact f32
  | 33, hkd => cases hkd; exact f33
  | 34, hkd => cases hkd; exact f34
  | 35, hkd => cases hkd; exact f35
  | 36, hkd => cases hkd; exact f36
  | 37, hkd => cases hkd; exact f37
  | 38, hkd => cases hkd; exact f38
  | 39, hkd => cases hkd; exact f39
  | 40, hkd => cases hkd; exact f40
  | 41, hkd => cases hkd; exact f41
  | 42, hkd => cases hkd; exact f42
  | 43, hkd => cases hkd; exact f43
  | 44, hkd => cases hkd; exact f44
  | 45, hkd => cases hkd; exact f45
  | 46, hkd => cases hkd; exact f46
  | 47, hkd => cases hkd; exact f47
  | 48, hkd => cases hkd; exact f48
  | 49, hkd => cases hkd; exact f49
  | 50, hkd => cases hkd; exact f50
  | 51, hkd => cases hkd; exact f51
  | 52, hkd => cases hkd; exact f52
  | 53, hkd => cases hkd; exact f53
  | 54, hkd => cases hkd; exact f54
  | 55, hkd => cases hkd; exact f55
  | 56, hkd => cases hkd; exact f56
  | 57, hkd => cases hkd; exact f57
  | 58, hkd => cases hkd; exact f58
  | 59, hkd => cases hkd; exact f59
  | 60, hkd => cases hkd; exact f60
  | 61, hkd => cases hkd; exact f61
  | 62, hkd => cases hkd; exact f62
  | 63, hkd => cases hkd; exact f63
  | 64, hkd => cases hkd; exact f64
  | 65, hkd => cases hkd; exact f65
  | 66, hkd => cases hkd; exact f66
  | 67, hkd => cases hkd; exact f67
  | 68, hkd => cases hkd; exact f68
  | 69, hkd => cases hkd; exact f69
  | 70, hkd => cases hkd; exact f70
  | 71, hkd => cases hkd; exact f71
  | 72, hkd => cases hkd; exact f72
  | k + 73, hkd => exact absurd (List.getElem?_eq_some_iff.mp hkd).1 (by rw [wo_len]; omega)
end

/-! ===== rows in lowest terms ===== -/
def rr_prim (m : Nat) (R : Nat → Int) : Prop := ∀ d : Int, (∀ c, c ≤ m → d ∣ R c) → d ∣ 1
theorem rr_mult {m : Nat} {R Z : Nat → Int} {k l : Int} (hp : rr_prim m R) (hk : k ≠ 0) (hl : l ≠ 0) (h : ∀ c, c ≤ m → k * R c = l * Z c) : ∃ t : Int, t ≠ 0 ∧ ∀ c, c ≤ m → Z c = t * R c := by
  have hg : 0 < Int.gcd l k := Int.gcd_pos_of_ne_zero_left _ hl
  have hg0 : (Int.gcd l k : Int) ≠ 0 := by omega
  obtain ⟨l', hl'⟩ := Int.gcd_dvd_left l k
  obtain ⟨k', hk'⟩ := Int.gcd_dvd_right l k
  have hcop : Int.gcd l' k' = 1 := by
    have h1 : Int.gcd (Int.gcd l k * l') (Int.gcd l k * k') = Int.gcd l k * Int.gcd l' k' := by
      rw [Int.gcd_mul_left]; simp
    rw [← hl', ← hk'] at h1
    have h2 : Int.gcd l k * Int.gcd l' k' = Int.gcd l k * 1 := by omega
    exact Nat.eq_of_mul_eq_mul_left hg h2
  have h' : ∀ c, c ≤ m → k' * R c = l' * Z c := fun c hc => by
    have e : (Int.gcd l k : Int) * k' * R c = (Int.gcd l k : Int) * l' * Z c := by rw [← hk', ← hl']; exact h c hc
    apply Int.eq_of_mul_eq_mul_left hg0
    rw [← Int.mul_assoc, ← Int.mul_assoc]
    exact e
  have hd : l' ∣ 1 := hp l' (fun c hc => fr_dvd (n := k') ⟨Z c, h' c hc⟩ hcop)
  have hl1 : l' = 1 ∨ l' = -1 := by
    obtain ⟨q, hq⟩ := hd
    have : l'.natAbs * q.natAbs = 1 := by rw [← Int.natAbs_mul, ← hq]; rfl
    have := Nat.eq_one_of_mul_eq_one_right this
    omega
  have hk0 : k' ≠ 0 := fun e => hk (by rw [hk', e, Int.mul_zero])
  refine ⟨l' * k', ?_, fun c hc => ?_⟩
  · rcases hl1 with e | e <;> rw [e] <;> omega
  · have e := h' c hc
    rcases hl1 with q | q <;> rw [q] at e ⊢
    · rw [Int.one_mul, e, Int.one_mul]
    · rw [Int.mul_assoc, e]; omega
theorem rr_abs {a t b B : Int} (ht : t ≠ 0) (e : a = t * b) (h1 : -B < a) (h2 : a < B) : -B < b ∧ b < B := by
  have h : b.natAbs ≤ a.natAbs := by
    rw [e, Int.natAbs_mul]
    exact Nat.le_mul_of_pos_left _ (by omega)
  omega
/-- the pivot of the i-th row: columns are listed from the latest on -/
def rr_p (cs : List Nat) (i : Nat) : Nat := cs.reverse.getD i 0
theorem rr_p_lt (c : Nat) (cs : List Nat) {i : Nat} (h : i < cs.length) : rr_p (c :: cs) i = rr_p cs i := by
  unfold rr_p
  show ((c :: cs).reverse[i]?).getD 0 = (cs.reverse[i]?).getD 0
  rw [List.reverse_cons, List.getElem?_append_left (by simpa using h)]
theorem rr_p_eq (c : Nat) (cs : List Nat) : rr_p (c :: cs) cs.length = c := by
  unfold rr_p
  show ((c :: cs).reverse[cs.length]?).getD 0 = c
  rw [List.reverse_cons, List.getElem?_append_right (by simp)]
  simp
theorem rr_p_mem {cs : List Nat} {i : Nat} (h : i < cs.length) : rr_p cs i ∈ cs := by
  unfold rr_p
  show (cs.reverse[i]?).getD 0 ∈ cs
  rw [List.getElem?_eq_getElem (by simpa using h)]
  exact List.mem_reverse.mp (List.getElem_mem _)
theorem rr_p_sur : ∀ {cs : List Nat} {c : Nat}, c ∈ cs → ∃ i, i < cs.length ∧ rr_p cs i = c
  | [], _, h => by cases h
  | a :: cs, c, h => by
    rcases List.mem_cons.mp h with rfl | h
    · exact ⟨cs.length, by simp, rr_p_eq _ _⟩
    · obtain ⟨i, hi, e⟩ := rr_p_sur h
      exact ⟨i, by simp; omega, by rw [rr_p_lt _ _ hi]; exact e⟩
theorem rr_p_inj : ∀ {cs : List Nat}, cs.Nodup → ∀ {i j : Nat}, i < cs.length → j < cs.length → rr_p cs i = rr_p cs j → i = j
  | [], _, i, j, h, _, _ => absurd h (Nat.not_lt_zero _)
  | a :: cs, hd, i, j, hi, hj, e => by
    obtain ⟨h1, h2⟩ := List.nodup_cons.mp hd
    simp only [List.length_cons] at hi hj
    rcases Nat.lt_or_ge i cs.length with ha | ha
    · rcases Nat.lt_or_ge j cs.length with hb | hb
      · rw [rr_p_lt _ _ ha, rr_p_lt _ _ hb] at e
        exact rr_p_inj h2 ha hb e
      · have ej : j = cs.length := by omega
        rw [ej, rr_p_eq, rr_p_lt _ _ ha] at e
        exact absurd (rr_p_mem ha) (by rw [e]; exact h1)
    · have ei : i = cs.length := by omega
      rcases Nat.lt_or_ge j cs.length with hb | hb
      · rw [ei, rr_p_eq, rr_p_lt _ _ hb] at e
        exact absurd (rr_p_mem hb) (by rw [← e]; exact h1)
      · omega
/-- a row of the reduced ones -/
def rr_R (g : gd_T) (B : Nat) (ws cs : List Nat) (i : Nat) (R : Nat → Int) : Prop := ff_V g B ws R ∧ (∀ c, c ∈ cs → c ≠ rr_p cs i → R c = 0) ∧ R (rr_p cs i) ≠ 0 ∧ rr_prim (gd_m g) R ∧ ∀ c, gd_m g < c → R c = 0
section
variable {g : gd_T} {B : Nat} {ws cs : List Nat}
theorem rr_X (hok : gd_ok g) (hK : ff_K g B ws cs) {i : Nat} (hi : i < ws.length) {R : Nat → Int} (hR : rr_R g B ws cs i R) : ∃ (X : Nat → Int) (s t : Int), (s = 1 ∨ s = -1) ∧ t ≠ 0 ∧ ff_V g B ws X ∧ (∀ c, c ∈ cs → c ≠ rr_p cs i → X c = 0) ∧ X (rr_p cs i) = s * ff_p g B cs ws ∧ (∀ c, -67108864 < X c ∧ X c < 67108864) ∧ ∀ c, X c = t * R c := by
  have hm := gd_m_le hok
  obtain ⟨i1, i2, i3, i4⟩ := ff_K_p hK
  have hp := rr_p_mem (cs := cs) (i := i) (by omega)
  obtain ⟨X, s, hs, hV, h0, hXp, hb, hz⟩ := ff_X hok hK hp
  obtain ⟨r1, r2, r3, r4, r5⟩ := hR
  have hXp0 : X (rr_p cs i) ≠ 0 := by
    rw [hXp]
    rcases hs with rfl | rfl <;> omega
  have hU := ff_V_zero hok hK (ff_V_lin (X (rr_p cs i)) (-(R (rr_p cs i))) r1 hV) (fun c hc => by
    rcases Classical.em (c = rr_p cs i) with e | e
    · rw [e]; grind
    · rw [r2 c hc e, h0 c hc e]; simp)
  obtain ⟨t, ht, hXt⟩ := rr_mult (Z := X) (k := X (rr_p cs i)) (l := R (rr_p cs i)) r4 hXp0 r3 (fun c hc => by
    have := hU c (by omega)
    grind)
  refine ⟨X, s, t, hs, ht, hV, h0, hXp, hb, fun c => ?_⟩
  rcases Nat.lt_or_ge (gd_m g) c with h1 | h1
  · rw [hz c h1, r5 c h1]; simp
  · exact hXt c h1
theorem rr_bd (hok : gd_ok g) (hK : ff_K g B ws cs) {i : Nat} (hi : i < ws.length) {R : Nat → Int} (hR : rr_R g B ws cs i R) (c : Nat) : -67108864 < R c ∧ R c < 67108864 := by
  obtain ⟨X, s, t, hs, ht, hV, h0, hXp, hb, hXt⟩ := rr_X hok hK hi hR
  exact rr_abs ht (hXt c) (hb c).1 (hb c).2
theorem ff_r_le (hok : gd_ok g) (B : Nat) {v : Nat} (hv : v < 10) (c : Nat) : -9 ≤ ff_r g B v c ∧ ff_r g B v c ≤ 9 := by
  unfold ff_r
  split
  · unfold tb_v
    split
    · unfold gd_rhs
      split
      · rename_i hf
        have hv2 : v < 2 * g.1 := by
          unfold gd_free at hf
          simp only [Bool.and_eq_true, decide_eq_true_eq] at hf
          exact hf.1
        have := hok.2.2.2 v hv2
        omega
      · omega
    · split
      · unfold gd_col
        split
        · have := gd_run_le hok (k := c) (by omega) (v % 2)
          unfold gd_br
          split <;> (try split) <;> omega
        · omega
      · exact ⟨(by decide : (-9 : Int) ≤ 0), (by decide : (0 : Int) ≤ 9)⟩
  · omega
/-- a new way's row, cleared at the first s pivots, whole -/
def rr_Z (g : gd_T) (B : Nat) (ws cs : List Nat) (v s : Nat) (Z : Nat → Int) : Prop := ff_V g B ws (fun c => 1 * Z c + (-(ff_p g B cs ws)) * ff_r g B v c) ∧ (∀ j, j < s → Z (rr_p cs j) = 0) ∧ (∀ j, s ≤ j → j < ws.length → Z (rr_p cs j) = ff_p g B cs ws * ff_r g B v (rr_p cs j)) ∧ (∀ c, -(603979776 * ((s : Int) + 1)) < Z c ∧ Z c < 603979776 * ((s : Int) + 1)) ∧ ∀ c, gd_m g < c → Z c = 0
def rr_Y (g : gd_T) (B : Nat) (ws cs : List Nat) (v s : Nat) (y : Nat → Int) : Prop := (∃ (Z : Nat → Int) (k l : Int), rr_Z g B ws cs v s Z ∧ k ≠ 0 ∧ l ≠ 0 ∧ ∀ c, k * y c = l * Z c) ∧ (rr_prim (gd_m g) y ∨ ∀ c, -9 ≤ y c ∧ y c ≤ 9) ∧ ∀ c, gd_m g < c → y c = 0
theorem rr_Y0 (hok : gd_ok g) (hK : ff_K g B ws cs) {v : Nat} (hv : v < 10) : rr_Y g B ws cs v 0 (ff_r g B v) := by
  obtain ⟨i1, i2, i3, i4⟩ := ff_K_p hK
  have hb := ff_all7 hok B cs ws i4 (ff_7 hok hK)
  have hz : ∀ c, gd_m g < c → ff_r g B v c = 0 := fun c hc => by unfold ff_r; rw [if_neg (by omega)]
  refine ⟨⟨fun c => ff_p g B cs ws * ff_r g B v c, ff_p g B cs ws, 1, ⟨fun x hx => ?_, fun j hj => absurd hj (Nat.not_lt_zero _), fun j _ _ => rfl, fun c => ?_, fun c hc => by simp only []; rw [hz c hc, Int.mul_zero]⟩, i1, by decide, fun c => (Int.one_mul _).symm⟩, Or.inr (ff_r_le hok B hv), hz⟩
  · rw [gd_d_s]
    exact gd_s_z 11 (fun c _ => by grind)
  · have h9 := ff_r_le hok B hv c
    have := xs_mul hb.1 hb.2 (show (-9 - 1 : Int) + 1 - 1 < ff_r g B v c + 0 - 0 by omega |> fun h => by omega) (show ff_r g B v c < 10 by omega)
    simp only [] at *
    have e : (-9 : Int) * 67108864 ≤ 0 := by decide
    rcases Int.le_total 0 (ff_p g B cs ws) with h0 | h0
    · have a1 : ff_p g B cs ws * ff_r g B v c ≤ ff_p g B cs ws * 9 := Int.mul_le_mul_of_nonneg_left h9.2 h0
      have a2 : ff_p g B cs ws * (-9) ≤ ff_p g B cs ws * ff_r g B v c := Int.mul_le_mul_of_nonneg_left h9.1 h0
      constructor <;> omega
    · have a1 : ff_p g B cs ws * ff_r g B v c ≤ ff_p g B cs ws * (-9) := Int.mul_le_mul_of_nonpos_left h0 h9.1
      have a2 : ff_p g B cs ws * 9 ≤ ff_p g B cs ws * ff_r g B v c := Int.mul_le_mul_of_nonpos_left h0 h9.2
      constructor <;> omega
theorem rr_Yb (hok : gd_ok g) {v s : Nat} (hs : s ≤ 7) {y : Nat → Int} (hY : rr_Y g B ws cs v s y) (c : Nat) : -8589934592 < y c ∧ y c < 8589934592 := by
  obtain ⟨⟨Z, k, l, hZ, hk, hl, he⟩, hp | hp, hz⟩ := hY
  · rcases Nat.lt_or_ge (gd_m g) c with h1 | h1
    · rw [hz c h1]; omega
    · obtain ⟨t, ht, e⟩ := rr_mult hp hk hl (fun c _ => he c)
      have := hZ.2.2.2.1 c
      exact rr_abs ht (e c h1) (by omega) (by omega)
  · have := hp c
    omega
theorem rr_mul9 {a b : Int} (h1 : -67108864 < a) (h2 : a < 67108864) (h3 : -9 ≤ b) (h4 : b ≤ 9) : -603979776 < b * a ∧ b * a < 603979776 := by
  have : (b * a).natAbs ≤ 9 * a.natAbs := by
    rw [Int.natAbs_mul]
    exact Nat.mul_le_mul_right _ (by omega)
  omega
/-- one pivot more, where the row has something there -/
theorem rr_Y1 (hok : gd_ok g) (hK : ff_K g B ws cs) {v s : Nat} (hv : v < 10) (hs : s < ws.length) {R y y' : Nat → Int} (hR : rr_R g B ws cs s R) (hY : rr_Y g B ws cs v s y) {d : Int} (hd : d ≠ 0) (he : ∀ c, y c * R (rr_p cs s) - R c * y (rr_p cs s) = d * y' c) (hp : rr_prim (gd_m g) y' ∨ ∀ c, y' c = 0) : rr_Y g B ws cs v (s + 1) y' := by
  obtain ⟨i1, i2, i3, i4⟩ := ff_K_p hK
  have hnd := ff_nd hK
  obtain ⟨X, σ, t, hσ, ht, hV, h0, hXp, hb, hXt⟩ := rr_X hok hK hs hR
  obtain ⟨⟨Z, k, l, hZ, hk, hl, hkl⟩, -, hyz⟩ := hY
  obtain ⟨z1, z2, z3, z4, z5⟩ := hZ
  have hpb := rr_p_mem (cs := cs) (i := s) (by omega)
  have hr9 := ff_r_le hok B hv (rr_p cs s)
  have hσ2 : σ * σ = 1 := by rcases hσ with rfl | rfl <;> rfl
  have hσ0 : σ ≠ 0 := by rcases hσ with rfl | rfl <;> decide
  have hy0 : ∀ c, gd_m g < c → y' c = 0 := fun c hc => by
    have e := he c
    rw [hyz c hc, hR.2.2.2.2 c hc] at e
    have : d * y' c = 0 := by rw [← e]; simp
    exact (Int.mul_eq_zero.mp this).resolve_left hd
  refine ⟨⟨fun c => Z c - σ * (ff_r g B v (rr_p cs s) * X c), k * t * d, l * σ * ff_p g B cs ws, ⟨?_, fun j hj => ?_, fun j h1 h2 => ?_, fun c => ?_, fun c hc => ?_⟩, ?_, ?_, fun c => ?_⟩, ?_, hy0⟩
  · have := ff_V_lin 1 (-(σ * ff_r g B v (rr_p cs s))) z1 hV
    intro x hx
    have e := this x hx
    rw [← e]
    congr 1
    funext c
    grind
  · simp only []
    rcases Nat.lt_or_ge j s with h1 | h1
    · rw [z2 j h1, h0 _ (rr_p_mem (by omega)) (fun e => by have := rr_p_inj hnd (by omega) (by omega) e; omega)]; simp
    · have e : j = s := by omega
      rw [e, z3 s (Nat.le_refl _) hs, hXp]
      have : σ * (ff_r g B v (rr_p cs s) * (σ * ff_p g B cs ws)) = (σ * σ) * (ff_p g B cs ws * ff_r g B v (rr_p cs s)) := by grind
      rw [this, hσ2]; omega
  · simp only []
    rw [z3 j (by omega) h2, h0 _ (rr_p_mem (by omega)) (fun e => by have := rr_p_inj hnd (by omega) (by omega) e; omega)]; simp
  · have a := z4 c
    have b := rr_mul9 (hb c).1 (hb c).2 hr9.1 hr9.2
    simp only []
    rcases hσ with e | e <;> rw [e] <;> constructor <;> (push_cast; omega)
  · simp only []
    rw [z5 c hc, hXt c, hR.2.2.2.2 c hc]; simp
  · exact fun e => by
      rcases Int.mul_eq_zero.mp e with e | e
      · exact (Int.mul_eq_zero.mp e).elim hk ht
      · exact hd e
  · exact fun e => by
      rcases Int.mul_eq_zero.mp e with e | e
      · exact (Int.mul_eq_zero.mp e).elim hl hσ0
      · exact i1 e
  · have e1 := he c
    have e2 := hkl c
    have e3 := hkl (rr_p cs s)
    rw [z3 s (Nat.le_refl _) hs] at e3
    have x1 := hXt c
    have x2 := hXt (rr_p cs s)
    rw [hXp] at x2
    generalize ff_p g B cs ws = D at *
    generalize ff_r g B v (rr_p cs s) = ρ at *
    generalize R (rr_p cs s) = Rp at *
    generalize y (rr_p cs s) = yp at *
    have q1 : k * t * d * y' c = (t * Rp) * (k * y c) - (t * R c) * (k * yp) := by
      have : k * t * d * y' c = k * t * (d * y' c) := by grind
      rw [this, ← e1]; grind
    rw [q1, e2, e3, ← x1, ← x2]
    have q2 : l * σ * D * (Z c - σ * (ρ * X c)) = l * σ * D * Z c - (σ * σ) * (l * D * ρ * X c) := by grind
    rw [q2, hσ2]; grind
  · rcases hp with h | h
    · exact Or.inl h
    · exact Or.inr (fun c => by rw [h c]; omega)
theorem rr_Y1z (hK : ff_K g B ws cs) {v s : Nat} (hs : s < ws.length) {y : Nat → Int} (hY : rr_Y g B ws cs v s y) (h0 : y (rr_p cs s) = 0) : rr_Y g B ws cs v (s + 1) y := by
  obtain ⟨i1, -, -, -⟩ := ff_K_p hK
  obtain ⟨⟨Z, k, l, ⟨z1, z2, z3, z4, z5⟩, hk, hl, hkl⟩, hp, hz⟩ := hY
  refine ⟨⟨Z, k, l, ⟨z1, fun j hj => ?_, fun j h1 h2 => z3 j (by omega) h2, fun c => ?_, z5⟩, hk, hl, hkl⟩, hp, hz⟩
  · rcases Nat.lt_or_ge j s with h1 | h1
    · exact z2 j h1
    · have e : j = s := by omega
      rw [e]
      have e2 := hkl (rr_p cs s)
      rw [h0, Int.mul_zero] at e2
      exact (Int.mul_eq_zero.mp e2.symm).resolve_left hl
  · have := z4 c
    push_cast
    omega
/-- a row that is cleared at all pivots says what the minors say -/
theorem rr_Yend (hok : gd_ok g) (hK : ff_K g B ws cs) {v : Nat} {y : Nat → Int} (hY : rr_Y g B ws cs v ws.length y) : ∃ k l : Int, k ≠ 0 ∧ l ≠ 0 ∧ ∀ c, k * y c = l * ff_p g B (c :: cs) (v :: ws) := by
  obtain ⟨i1, i2, i3, i4⟩ := ff_K_p hK
  obtain ⟨⟨Z, k, l, ⟨z1, z2, z3, z4, z5⟩, hk, hl, hkl⟩, hp, hz⟩ := hY
  have hE : ff_V g B ws (fun c => 1 * ff_p g B (c :: cs) (v :: ws) + (-(ff_p g B cs ws)) * ff_r g B v c) := fun x hx => by
    have e := ff_lin (cs := cs) (v := v) x hx
    have e4 : xa_d 11 (fun c => 1 * ff_p g B (c :: cs) (v :: ws) + (-(ff_p g B cs ws)) * ff_r g B v c) x = 1 * xa_d 11 (fun c => ff_p g B (c :: cs) (v :: ws)) x + (-(ff_p g B cs ws)) * xa_d 11 (ff_r g B v) x := by
      rw [gd_d_s, gd_d_s, gd_d_s, ← gd_s_lin]
      exact gd_s_congr 11 (fun j _ => by grind)
    rw [e4, e]; grind
  have h0 := ff_V_zero hok hK (ff_V_lin 1 (-1) hE z1) (fun c hc => by
    obtain ⟨i, hi, e⟩ := rr_p_sur hc
    have e2 : ff_p g B (c :: cs) (v :: ws) = 0 := xb_used 11 hc _
    have e3 : Z c = 0 := by rw [← e]; exact z2 i (by omega)
    rw [e2, e3]; grind)
  refine ⟨k, l, hk, hl, fun c => ?_⟩
  rw [hkl c]
  rcases Nat.lt_or_ge (gd_m g) c with h1 | h1
  · rw [z5 c h1, ff_out h1]
  · have := h0 c (by have := gd_m_le hok; omega)
    have e : Z c = ff_p g B (c :: cs) (v :: ws) := by omega
    rw [e]
theorem rr_Eup {v : Nat} : ff_V g B (v :: ws) (fun c => ff_p g B (c :: cs) (v :: ws)) := fun x hx => by
  rw [ff_lin (cs := cs) (v := v) x (fun u hu => hx u (List.mem_cons_of_mem _ hu)), hx v List.mem_cons_self, Int.mul_zero]
/-- the latest row -/
theorem rr_Rnew {v c0 : Nat} {y : Nat → Int} (hlen : cs.length = ws.length) {k l : Int} (hk : k ≠ 0) (hl : l ≠ 0) (hkl : ∀ c, k * y c = l * ff_p g B (c :: cs) (v :: ws)) (hn : y c0 ≠ 0) (hp : rr_prim (gd_m g) y) (hz : ∀ c, gd_m g < c → y c = 0) : rr_R g B (v :: ws) (c0 :: cs) ws.length y := by
  have e := rr_p_eq c0 cs
  rw [hlen] at e
  refine ⟨ff_V_div (R := fun c => l * ff_p g B (c :: cs) (v :: ws) + 0 * ff_p g B (c :: cs) (v :: ws)) hk (ff_V_lin l 0 rr_Eup rr_Eup) (fun c _ => by rw [hkl c]; simp), fun c hc hne => ?_, by rw [e]; exact hn, hp, hz⟩
  rw [e] at hne
  have hc2 : c ∈ cs := (List.mem_cons.mp hc).resolve_left hne
  have := hkl c
  have e2 : ff_p g B (c :: cs) (v :: ws) = 0 := xb_used 11 hc2 _
  rw [e2, Int.mul_zero] at this
  exact (Int.mul_eq_zero.mp this).resolve_left hk
/-- a row ahead, cleared at the new pivot -/
theorem rr_Rold {v c0 i : Nat} {y R R' : Nat → Int} (hlen : cs.length = ws.length) (hc0 : c0 ∉ cs) (hi : i < ws.length) (hy : rr_R g B (v :: ws) (c0 :: cs) ws.length y) (hR : rr_R g B ws cs i R) {d : Int} (hd : d ≠ 0) (he : ∀ c, R c * y c0 - y c * R c0 = d * R' c) (hp : rr_prim (gd_m g) R') : rr_R g B (v :: ws) (c0 :: cs) i R' := by
  have e := rr_p_eq c0 cs
  rw [hlen] at e
  have hpi := rr_p_lt c0 cs (i := i) (by omega)
  have hmem := rr_p_mem (cs := cs) (i := i) (by omega)
  have hne0 : rr_p cs i ≠ c0 := fun q => hc0 (q ▸ hmem)
  have y0 : ∀ c, c ∈ cs → y c = 0 := fun c hc => hy.2.1 c (List.mem_cons_of_mem _ hc) (by rw [e]; exact fun q => hc0 (q ▸ hc))
  have yc : y c0 ≠ 0 := by have := hy.2.2.1; rw [e] at this; exact this
  refine ⟨ff_V_div hd (ff_V_lin (y c0) (-(R c0)) (ff_V_up v hR.1) hy.1) (fun c _ => by rw [← he c]; grind), fun c hc hne => ?_, fun q => ?_, hp, fun c hc => ?_⟩
  · rw [hpi] at hne
    have h0 : d * R' c = 0 := by
      rw [← he c]
      rcases List.mem_cons.mp hc with rfl | hc
      · grind
      · rw [hR.2.1 c hc hne, y0 c hc]; simp
    exact (Int.mul_eq_zero.mp h0).resolve_left hd
  · rw [hpi] at q
    have := he (rr_p cs i)
    rw [q, y0 _ hmem] at this
    have h2 : R (rr_p cs i) * y c0 = 0 := by simpa using this
    exact (Int.mul_eq_zero.mp h2).elim hR.2.2.1 yc
  · have h0 : d * R' c = 0 := by
      rw [← he c, hR.2.2.2.2 c hc, hy.2.2.2.2 c hc]; simp
    exact (Int.mul_eq_zero.mp h0).resolve_left hd
theorem rr_Rsame {v c0 i : Nat} {R : Nat → Int} (hlen : cs.length = ws.length) (hi : i < ws.length) (hR : rr_R g B ws cs i R) (h0 : R c0 = 0) : rr_R g B (v :: ws) (c0 :: cs) i R := by
  have hpi := rr_p_lt c0 cs (i := i) (by omega)
  refine ⟨ff_V_up v hR.1, fun c hc hne => ?_, by rw [hpi]; exact hR.2.2.1, hR.2.2.2.1, hR.2.2.2.2⟩
  rw [hpi] at hne
  rcases List.mem_cons.mp hc with rfl | hc
  · exact h0
  · exact hR.2.1 c hc hne
end

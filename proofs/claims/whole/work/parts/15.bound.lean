/-! ===== bounds of columns, and how many can be independent ===== -/
theorem xs_sq_le {a b : Int} (h1 : -b ≤ a) (h2 : a ≤ b) : a * a ≤ b * b := by
  have h := Int.mul_nonneg (show 0 ≤ b - a by omega) (show 0 ≤ b + a by omega)
  have e : (b - a) * (b + a) = b * b - a * a := by grind
  omega
theorem xs_root {x B : Int} (hB : 0 < B) (h : x * x < B * B) : -B < x ∧ x < B := by
  constructor
  · rcases Int.lt_or_le (-B) x with h1 | h1
    · exact h1
    · have := xs_sq_le (a := B) (b := -x) (by omega) (by omega)
      have e : -x * -x = x * x := by grind
      omega
  · rcases Int.lt_or_le x B with h1 | h1
    · exact h1
    · have := xs_sq_le (a := B) (b := x) (by omega) (by omega)
      omega
theorem gd_m_le {g : gd_T} (h : gd_ok g) : gd_m g ≤ 10 := by
  have h5 := h.1
  unfold gd_m
  have : ∀ n : Nat, n ≤ 5 → n * (n - 1) / 2 ≤ 10 := by decide
  exact this _ h5
theorem gd_gre_lt {g : gd_T} (h : gd_ok g) {k : Nat} (hk : k < gd_m g) : gd_gre k < g.1 := by
  have h5 := h.1
  unfold gd_m at hk
  have h10 : k < 10 := Nat.lt_of_lt_of_le hk (by have := gd_m_le h; unfold gd_m at this; exact this)
  have : ∀ n : Nat, n ≤ 5 → ∀ k, k < 10 → k < n * (n - 1) / 2 → gd_gre k < n := by decide
  exact this _ h5 k h10 hk
theorem gd_les_gre : ∀ k, k < 10 → gd_les k < gd_gre k ∧ gd_gre k ≤ 4 := by decide
theorem gd_run_le {g : gd_T} (h : gd_ok g) {k : Nat} (hk : k < gd_m g) (ax : Nat) : -4 ≤ gd_run g k ax ∧ gd_run g k ax ≤ 4 := by
  have h1 := gd_gre_lt h hk
  have h2 := gd_les_gre k (Nat.lt_of_lt_of_le hk (gd_m_le h))
  have a := h.2.1 _ h1
  have b := h.2.1 (gd_les k) (by omega)
  unfold gd_run
  split <;> omega
theorem gd_quad_le {g : gd_T} (h : gd_ok g) {k : Nat} (hk : k < gd_m g) : gd_quad g k ≤ 32 := by
  have a := gd_run_le h hk 0
  have b := gd_run_le h hk 1
  have := xs_sq_le a.1 a.2
  have := xs_sq_le b.1 b.2
  unfold gd_quad
  omega
theorem gd_br_sq (g : gd_T) : ∀ k, k < 10 → gd_s (fun w => gd_br g k w * gd_br g k w) 10 = 2 * gd_quad g k
  | 0, _ => by simp [gd_s, gd_br, gd_les, gd_gre, gd_quad]; grind
  | 1, _ => by simp [gd_s, gd_br, gd_les, gd_gre, gd_quad]; grind
  | 2, _ => by simp [gd_s, gd_br, gd_les, gd_gre, gd_quad]; grind
  | 3, _ => by simp [gd_s, gd_br, gd_les, gd_gre, gd_quad]; grind
  | 4, _ => by simp [gd_s, gd_br, gd_les, gd_gre, gd_quad]; grind
  | 5, _ => by simp [gd_s, gd_br, gd_les, gd_gre, gd_quad]; grind
  | 6, _ => by simp [gd_s, gd_br, gd_les, gd_gre, gd_quad]; grind
  | 7, _ => by simp [gd_s, gd_br, gd_les, gd_gre, gd_quad]; grind
  | 8, _ => by simp [gd_s, gd_br, gd_les, gd_gre, gd_quad]; grind
  | 9, _ => by simp [gd_s, gd_br, gd_les, gd_gre, gd_quad]; grind
  | k + 10, h => absurd h (by omega)
theorem gd_col_n2 {g : gd_T} (h : gd_ok g) {k : Nat} (hk : k < gd_m g) : xa_d 10 (gd_col g k) (gd_col g k) ≤ 64 := by
  rw [gd_d_s]
  refine Int.le_trans (gd_s_le 10 (h := fun w => gd_br g k w * gd_br g k w) (fun w _ => ?_)) ?_
  · unfold gd_col
    split
    · exact Int.le_refl _
    · simp only [Int.mul_zero]; exact xa_sq _
  · rw [gd_br_sq g k (Nat.lt_of_lt_of_le hk (gd_m_le h))]
    have := gd_quad_le h hk
    omega
theorem gd_rhs_n2 {g : gd_T} (h : gd_ok g) : xa_d 10 (gd_rhs g) (gd_rhs g) ≤ 810 := by
  rw [gd_d_s]
  refine Int.le_trans (gd_s_le 10 (h := fun _ => 81) (fun w _ => ?_)) (by decide)
  unfold gd_rhs
  split
  · rename_i hf
    have hw : w < 2 * g.1 := by
      unfold gd_free at hf
      simp only [Bool.and_eq_true, decide_eq_true_eq] at hf
      exact hf.1
    have := h.2.2.2 w hw
    exact xs_sq_le (b := 9) (by omega) (by omega)
  · decide
theorem gd_d_comm (c d : Nat → Int) (n : Nat) : xa_d n c d = xa_d n d c := by
  rw [gd_d_s, gd_d_s]
  exact gd_s_congr n (fun k _ => Int.mul_comm _ _)
def gd_mo (g : gd_T) (j w : Nat) : Int := match j with
  | 0 => if w % 2 = 0 then 1 else 0
  | 1 => if w % 2 = 0 then 0 else 1
  | _ => if w % 2 = 0 then -(g.2.2.1 (w / 2) - g.2.2.1 0) else g.2.1 (w / 2) - g.2.1 0
theorem gd_mo_br (g : gd_T) (j : Nat) (hj : j < 3) : ∀ k, k < 10 → xa_d 10 (gd_br g k) (gd_mo g j) = 0 := by
  intro k hk
  rcases (show j = 0 ∨ j = 1 ∨ j = 2 by omega) with rfl | rfl | rfl <;>
    rcases (show k = 0 ∨ k = 1 ∨ k = 2 ∨ k = 3 ∨ k = 4 ∨ k = 5 ∨ k = 6 ∨ k = 7 ∨ k = 8 ∨ k = 9 by omega) with rfl | rfl | rfl | rfl | rfl | rfl | rfl | rfl | rfl | rfl <;>
    (simp [xa_d, gd_br, gd_les, gd_gre, gd_mo, gd_run]; try grind)
/-- of five points eight bars always depend on each other -/
theorem gd_rank {g : gd_T} (h : gd_ok g) (h5 : g.1 = 5) (ks : List Nat) (hl : 8 ≤ ks.length) (hk : ∀ k, k ∈ ks → k < 10) : (xb_O (ks.map (gd_col g)) : xa_E 10) = xa_z 10 := by
  have e : ks.map (gd_col g) = (ks.map (gd_br g)).map (xc_v (gd_free g)) := by
    rw [List.map_map]; rfl
  rw [e]
  apply xc_mz
  have hm : ∀ j, j < 3 → ∀ c, c ∈ ks.map (gd_br g) → xa_d 10 c (gd_mo g j) = 0 := by
    intro j hj c hc
    obtain ⟨k, hk1, rfl⟩ := List.mem_map.mp hc
    exact gd_mo_br g j hj k (hk k hk1)
  have hu : ∀ (r : Nat) (d : Nat → Int), r < 10 → xa_d 10 (xa_e r) d = d r := by
    intro r d hr
    rw [gd_d_comm, xa_d_e, if_pos hr]
  have hne := h.2.2.1 0 1 (by omega) (by omega) (by decide)
  have key : ∀ r, r < 10 → gd_mo g 2 r ≠ 0 → (xb_O (ks.map (gd_br g)) : xa_E 10) = xa_z 10 := by
    intro r hr hn
    refine xc_rank (ks.map (gd_br g)) (gd_mo g 0) (gd_mo g 1) (gd_mo g 2) (xa_e 0) (xa_e 1) (xa_e r) ?_ (hm 0 (by decide)) (hm 1 (by decide)) (hm 2 (by decide)) ?_ ?_ ?_ ?_ ?_ ?_
    · rw [List.length_map]; omega
    · rw [hu 1 _ (by decide)]; rfl
    · rw [hu 0 _ (by decide)]; simp [gd_mo]
    · rw [hu 1 _ (by decide)]; simp [gd_mo]
    · rw [hu 0 _ (by decide)]; simp [gd_mo]
    · rw [hu 1 _ (by decide)]; simp [gd_mo]
    · rw [hu r _ hr]; exact hn
  rcases Classical.em (g.2.1 0 = g.2.1 1) with e1 | e1
  · refine key 2 (by decide) ?_
    have : ¬ g.2.2.1 0 = g.2.2.1 1 := fun e2 => hne ⟨e1, e2⟩
    simp [gd_mo]; omega
  · refine key 3 (by decide) ?_
    simp [gd_mo]; omega
/-! ===== the tableau's columns: those that are allowed; behind them the loads ===== -/
def tb_v (g : gd_T) (A c : Nat) : Nat → Int := if c = gd_m g then gd_rhs g else if A.testBit c then gd_col g c else fun _ => 0
theorem tb_v_n2 {g : gd_T} (h : gd_ok g) (A : Nat) {c : Nat} (hc : c < gd_m g) : xa_d 10 (tb_v g A c) (tb_v g A c) ≤ 64 := by
  unfold tb_v
  rw [if_neg (by omega)]
  split
  · exact gd_col_n2 h hc
  · simp [xa_d]
/-- no cell comes near the bounds of a long -/
theorem tb_bd {g : gd_T} (h : gd_ok g) (A : Nat) (rs : List Nat) (c : Nat) (ks : List Nat) (hc : c ≤ gd_m g) (hk : ∀ k, k ∈ ks → k < gd_m g) (hl : ks.length ≤ 7) : -67108864 < xb_p 10 rs ((c :: ks).map (tb_v g A)) ∧ xb_p 10 rs ((c :: ks).map (tb_v g A)) < 67108864 := by
  have h1 := xb_had 10 rs ((c :: ks).map (tb_v g A))
  have h2 : xb_n 10 (ks.map (tb_v g A)) ≤ 64 ^ (ks.map (tb_v g A)).length := xb_n_pow 10 64 (by decide) _ (fun k hk1 => by
    obtain ⟨j, hj, rfl⟩ := List.mem_map.mp hk1
    exact tb_v_n2 h A (hk j hj))
  rw [List.length_map] at h2
  have h3 : (64 : Int) ^ ks.length ≤ 64 ^ 7 := by
    have : ∀ n, n ≤ 7 → (64 : Int) ^ n ≤ 64 ^ 7 := by decide
    exact this _ hl
  have h4 : xa_d 10 (tb_v g A c) (tb_v g A c) ≤ 810 := by
    rcases Nat.lt_or_ge c (gd_m g) with e | e
    · exact Int.le_trans (tb_v_n2 h A e) (by decide)
    · unfold tb_v
      rw [if_pos (by omega)]
      exact gd_rhs_n2 h
  have h5 : xb_n 10 ((c :: ks).map (tb_v g A)) ≤ 810 * 64 ^ 7 := by
    show xa_d 10 (tb_v g A c) (tb_v g A c) * xb_n 10 (ks.map (tb_v g A)) ≤ _
    exact Int.le_trans (Int.mul_le_mul_of_nonneg_right h4 (xb_n_nn 10 _)) (Int.mul_le_mul_of_nonneg_left (Int.le_trans h2 h3) (by decide))
  apply xs_root (by decide)
  refine Int.lt_of_le_of_lt (Int.le_trans h1 h5) (by decide)
theorem tb_bd0 {g : gd_T} (h : gd_ok g) (A : Nat) (rs : List Nat) (ks : List Nat) (hk : ∀ k, k ∈ ks → k < gd_m g) (hl : ks.length ≤ 7) : -2097153 < xb_p 10 rs (ks.map (tb_v g A)) ∧ xb_p 10 rs (ks.map (tb_v g A)) < 2097153 := by
  have h1 := xb_had 10 rs (ks.map (tb_v g A))
  have h2 : xb_n 10 (ks.map (tb_v g A)) ≤ 64 ^ (ks.map (tb_v g A)).length := xb_n_pow 10 64 (by decide) _ (fun k hk1 => by
    obtain ⟨j, hj, rfl⟩ := List.mem_map.mp hk1
    exact tb_v_n2 h A (hk j hj))
  rw [List.length_map] at h2
  have h3 : (64 : Int) ^ ks.length ≤ 64 ^ 7 := by
    have : ∀ n, n ≤ 7 → (64 : Int) ^ n ≤ 64 ^ 7 := by decide
    exact this _ hl
  apply xs_root (by decide)
  refine Int.lt_of_le_of_lt (Int.le_trans h1 (Int.le_trans h2 h3)) (by decide)
/-- at seven bars no other one enters -/
theorem tb_full {g : gd_T} (h : gd_ok g) (A : Nat) (rs : List Nat) (c : Nat) (ks : List Nat) (hc : c < gd_m g) (hk : ∀ k, k ∈ ks → k < gd_m g) (hl : ks.length = 7) (hd : (c :: ks).Nodup) : xb_p 10 rs ((c :: ks).map (tb_v g A)) = 0 := by
  have hm := gd_m_le h
  have h5 : g.1 = 5 := by
    have hle : (c :: ks).length ≤ gd_m g := by
      have hsub : (c :: ks) ⊆ List.range (gd_m g) := fun x hx => by
        rw [List.mem_range]
        rcases List.mem_cons.mp hx with rfl | hx
        · exact hc
        · exact hk x hx
      have := List.Nodup.length_le_of_subset hd hsub
      simpa using this
    have h8 : 8 ≤ gd_m g := by simp [hl] at hle; omega
    have hn := h.1
    unfold gd_m at h8
    have : ∀ n : Nat, n ≤ 5 → 8 ≤ n * (n - 1) / 2 → n = 5 := by decide
    exact this _ hn h8
  apply xc_p0
  have e : (c :: ks).map (tb_v g A) = ((c :: ks).map (gd_col g)).map id ∨ ∃ k, k ∈ c :: ks ∧ A.testBit k = false := by
    rcases Classical.em (∃ k, k ∈ c :: ks ∧ A.testBit k = false) with e | e
    · exact Or.inr e
    · refine Or.inl ?_
      rw [List.map_id]
      apply List.map_congr_left
      intro k hk1
      have hkm : k < gd_m g := by
        rcases List.mem_cons.mp hk1 with rfl | hk1
        · exact hc
        · exact hk k hk1
      have : A.testBit k = true := by
        cases hb : A.testBit k with
        | true => rfl
        | false => exact absurd ⟨k, hk1, hb⟩ e
      simp [tb_v, this, Nat.ne_of_lt hkm]
  rcases e with e | ⟨k, hk1, hb⟩
  · rw [e, List.map_id]
    exact gd_rank h h5 (c :: ks) (by simp [hl]) (fun k hk1 => by
      rcases List.mem_cons.mp hk1 with rfl | hk1
      · omega
      · have := hk k hk1; omega)
  · have hkm : k < gd_m g := by
      rcases List.mem_cons.mp hk1 with rfl | hk1
      · exact hc
      · exact hk k hk1
    have hz : ∀ l : List Nat, k ∈ l → (xb_O (l.map (tb_v g A)) : xa_E 10) = xa_z 10 := by
      intro l
      induction l with
      | nil => intro h; cases h
      | cons a l ih =>
        intro h
        show xa_w (tb_v g A a) (xb_O (l.map (tb_v g A))) = _
        rcases List.mem_cons.mp h with rfl | h
        · have e0 : tb_v g A k = fun i => 0 * gd_rhs g i + 0 * gd_rhs g i := by
            funext i; simp [tb_v, Nat.ne_of_lt hkm, hb]
          rw [e0, xa_w_lin]; simp only [xa_s_0, xa_a_z]
        · rw [ih h, xa_w_z]
    exact hz _ hk1

/-! ===== the balance way by way: pure facts ===== -/
def ff_r (g : gd_T) (B v : Nat) : Nat → Int := fun c => if c ≤ gd_m g then tb_v g B c v else 0
def ff_p (g : gd_T) (B : Nat) (cs ws : List Nat) : Int := xb_p 11 cs (ws.map (ff_r g B))
theorem xc_m_0 (f : Nat → Bool) : ∀ {n : Nat} (x : xa_E n), xa_0 (xc_m f x) = xa_0 x
  | 0, _ => rfl
  | n + 1, x => xc_m_0 f x.1
theorem xc_m_i (f : Nat → Bool) (r : Nat) (hr : f r = true) : ∀ {n : Nat} (x : xa_E n), xc_m f (xa_i (xa_e r) x) = xa_i (xa_e r) (xc_m f x)
  | 0, _ => rfl
  | n + 1, x => by
    simp only [xc_m, xa_i, xc_m_a, xc_m_s, xc_m_i f r hr]
    by_cases h : f n = true
    · simp [h]; rfl
    · have hn : xa_e r n = 0 := by
        unfold xa_e
        rw [if_neg]
        intro e
        rw [e] at h
        exact h hr
      simp [h, hn, xa_s_0, xa_a_z, xa_i_z, xa_s_z]; rfl
theorem xc_m_I (f : Nat → Bool) {n : Nat} : ∀ (rs : List Nat), (∀ r, r ∈ rs → f r = true) → ∀ x : xa_E n, xc_m f (xb_I rs x) = xb_I rs (xc_m f x)
  | [], _, _ => rfl
  | r :: rs, h, x => by
    show xc_m f (xb_I rs (xa_i (xa_e r) x)) = xb_I rs (xa_i (xa_e r) (xc_m f x))
    rw [xc_m_I f rs (fun q hq => h q (List.mem_cons_of_mem _ hq)), xc_m_i f r (h r List.mem_cons_self)]
/-- coordinates that no row asks for may be left out -/
theorem xc_p_mask (f : Nat → Bool) (n : Nat) (rs : List Nat) (hr : ∀ r, r ∈ rs → f r = true) (ks : List (Nat → Int)) : xb_p n rs ks = xb_p n rs (ks.map (xc_v f)) := by
  show xa_0 (xb_I rs (xb_O ks : xa_E n)) = xa_0 (xb_I rs (xb_O (ks.map (xc_v f)) : xa_E n))
  rw [← xc_m_O, ← xc_m_I f rs hr, xc_m_0]
theorem ff_row_sq {g : gd_T} (h : gd_ok g) (B : Nat) {v : Nat} (hv : v < 10) : gd_s (fun c => xc_v (fun c => decide (c < gd_m g)) (ff_r g B v) c * xc_v (fun c => decide (c < gd_m g)) (ff_r g B v) c) 11 ≤ 64 := by
  have hm := gd_m_le h
  refine Int.le_trans (gd_s_le 11 (h := fun c => if c < 10 ∧ (v / 2 = gd_les c ∨ v / 2 = gd_gre c) then 16 else 0) (fun c hc => ?_)) ?_
  · unfold xc_v ff_r
    by_cases hcm : c < gd_m g
    · simp only [hcm, decide_true, if_true, Nat.le_of_lt hcm]
      unfold tb_v
      rw [if_neg (Nat.ne_of_lt hcm)]
      by_cases hb : B.testBit c = true
      · rw [if_pos hb]
        unfold gd_col
        by_cases hf : gd_free g v = true
        · rw [if_pos hf]
          unfold gd_br
          have hr := gd_run_le h hcm (v % 2)
          have hsq := xs_sq_le hr.1 hr.2
          have c10 : c < 10 := by omega
          by_cases e1 : v / 2 = gd_les c
          · rw [if_pos e1, if_pos ⟨c10, Or.inl e1⟩]; exact hsq
          · rw [if_neg e1]
            by_cases e2 : v / 2 = gd_gre c
            · rw [if_pos e2, if_pos ⟨c10, Or.inr e2⟩, Int.neg_mul_neg]; exact hsq
            · rw [if_neg e2]; simp; split <;> decide
        · rw [if_neg hf]; simp; split <;> decide
      · rw [if_neg hb]; simp; split <;> decide
    · simp only [hcm, decide_false]; simp; split <;> decide
  · have : ∀ p, p < 5 → gd_s (fun c => if c < 10 ∧ (p = gd_les c ∨ p = gd_gre c) then 16 else 0) 11 ≤ 64 := by decide
    exact this (v / 2) (by omega)
theorem ff_bar {g : gd_T} (h : gd_ok g) (B : Nat) (cs ws : List Nat) (hc : ∀ c, c ∈ cs → c < gd_m g) (hw : ∀ v, v ∈ ws → v < 10) (hl : ws.length ≤ 8) : -16777217 < ff_p g B cs ws ∧ ff_p g B cs ws < 16777217 := by
  have e : ff_p g B cs ws = xb_p 11 cs (((ws.map (ff_r g B))).map (xc_v (fun c => decide (c < gd_m g)))) := xc_p_mask _ 11 cs (fun r hr => by simpa using hc r hr) _
  rw [e]
  have h1 := xb_had 11 cs (((ws.map (ff_r g B))).map (xc_v (fun c => decide (c < gd_m g))))
  have h2 := xb_n_pow 11 64 (by decide) (((ws.map (ff_r g B))).map (xc_v (fun c => decide (c < gd_m g)))) (fun k hk => by
    obtain ⟨k1, hk1, rfl⟩ := List.mem_map.mp hk
    obtain ⟨v, hv, rfl⟩ := List.mem_map.mp hk1
    rw [gd_d_s]
    exact ff_row_sq h B (hw v hv))
  simp only [List.length_map] at h2
  have h3 : (64 : Int) ^ ws.length ≤ 64 ^ 8 := by
    have : ∀ n, n ≤ 8 → (64 : Int) ^ n ≤ 64 ^ 8 := by decide
    exact this _ hl
  apply xs_root (by decide)
  exact Int.lt_of_le_of_lt (Int.le_trans h1 (Int.le_trans h2 h3)) (by decide)
theorem ff_row_all {g : gd_T} (h : gd_ok g) (B : Nat) {v : Nat} (hv : v < 10) : xa_d 11 (ff_r g B v) (ff_r g B v) ≤ 145 := by
  have hm := gd_m_le h
  rw [gd_d_s]
  have h0 := ff_row_sq h B hv
  have hlast : ff_r g B v (gd_m g) * ff_r g B v (gd_m g) ≤ 81 := by
    unfold ff_r tb_v
    simp only [Nat.le_refl, if_true]
    unfold gd_rhs
    split
    · rename_i hf
      have hv2 : v < 2 * g.1 := by
        unfold gd_free at hf
        simp only [Bool.and_eq_true, decide_eq_true_eq] at hf
        exact hf.1
      have := h.2.2.2 v hv2
      exact xs_sq_le (b := 9) (by omega) (by omega)
    · decide
  have hsplit : gd_s (fun c => ff_r g B v c * ff_r g B v c) 11 = ff_r g B v (gd_m g) * ff_r g B v (gd_m g) + gd_s (fun c => xc_v (fun c => decide (c < gd_m g)) (ff_r g B v) c * xc_v (fun c => decide (c < gd_m g)) (ff_r g B v) c) 11 := by
    rw [gd_s_pick (k := gd_m g) 11 (by omega)]
    congr 1
    refine gd_s_congr 11 (fun c hc => ?_)
    unfold xc_v
    by_cases e : c = gd_m g
    · subst e; simp
    · by_cases e2 : c < gd_m g
      · simp [e, e2]
      · have e3 : ¬ c ≤ gd_m g := by omega
        simp [e, e2, ff_r, e3]
  omega
theorem ff_all {g : gd_T} (h : gd_ok g) (B : Nat) (cs ws : List Nat) (hw : ∀ v, v ∈ ws → v < 10) (hl : ws.length ≤ 10) : -68719476736 < ff_p g B cs ws ∧ ff_p g B cs ws < 68719476736 := by
  have h1 := xb_had 11 cs (ws.map (ff_r g B))
  have h2 := xb_n_pow 11 145 (by decide) (ws.map (ff_r g B)) (fun k hk => by
    obtain ⟨v, hv, rfl⟩ := List.mem_map.mp hk
    exact ff_row_all h B (hw v hv))
  simp only [List.length_map] at h2
  have h3 : (145 : Int) ^ ws.length ≤ 145 ^ 10 := by
    have : ∀ n, n ≤ 10 → (145 : Int) ^ n ≤ 145 ^ 10 := by decide
    exact this _ hl
  apply xs_root (by decide)
  exact Int.lt_of_le_of_lt (Int.le_trans h1 (Int.le_trans h2 h3)) (by decide)
/-- seven rows at most, as they are -/
theorem ff_all7 {g : gd_T} (h : gd_ok g) (B : Nat) (cs ws : List Nat) (hw : ∀ v, v ∈ ws → v < 10) (hl : ws.length ≤ 7) : -67108864 < ff_p g B cs ws ∧ ff_p g B cs ws < 67108864 := by
  have h1 := xb_had 11 cs (ws.map (ff_r g B))
  have h2 := xb_n_pow 11 145 (by decide) (ws.map (ff_r g B)) (fun k hk => by
    obtain ⟨v, hv, rfl⟩ := List.mem_map.mp hk
    exact ff_row_all h B (hw v hv))
  simp only [List.length_map] at h2
  have h3 : (145 : Int) ^ ws.length ≤ 145 ^ 7 := by
    have : ∀ n, n ≤ 7 → (145 : Int) ^ n ≤ 145 ^ 7 := by decide
    exact this _ hl
  apply xs_root (by decide)
  exact Int.lt_of_le_of_lt (Int.le_trans h1 (Int.le_trans h2 h3)) (by decide)
/-- what a row says of pulls q and a share p of the loads -/
def ff_x (g : gd_T) (p : Int) (q : Nat → Int) : Nat → Int := fun c => if c = gd_m g then -p else q c
theorem ff_dot {g : gd_T} (h : gd_ok g) {B : Nat} (hB : B < 2 ^ gd_m g) (p : Int) (q : Nat → Int) (hq : gd_in q B) (v : Nat) : xa_d 11 (ff_r g B v) (ff_x g p q) = gd_app g q v - p * gd_rhs g v := by
  have hm := gd_m_le h
  have hq0 : ∀ c, gd_m g ≤ c → q c = 0 := fun c hc => by
    rcases Classical.em (q c = 0) with e | e
    · exact e
    · have := hq c e
      rw [gd_big hB hc] at this; cases this
  rw [gd_d_s, gd_s_pick (k := gd_m g) 11 (by omega)]
  have e1 : ff_r g B v (gd_m g) * ff_x g p q (gd_m g) = -(p * gd_rhs g v) := by
    simp [ff_r, ff_x, tb_v]; grind
  have e2 : gd_s (fun j => if j = gd_m g then 0 else ff_r g B v j * ff_x g p q j) 11 = gd_app g q v := by
    show gd_s (fun j => if j = gd_m g then 0 else ff_r g B v j * ff_x g p q j) 10 + (if 10 = gd_m g then (0 : Int) else ff_r g B v 10 * ff_x g p q 10) = _
    have e3 : (if 10 = gd_m g then (0 : Int) else ff_r g B v 10 * ff_x g p q 10) = 0 := by
      by_cases e : 10 = gd_m g
      · simp [e]
      · have : ¬ 10 ≤ gd_m g := by omega
        simp [e, ff_r, this]
    rw [e3, Int.add_zero]
    unfold gd_app
    refine gd_s_congr 10 (fun c hc => ?_)
    by_cases e : c = gd_m g
    · subst e; simp [hq0 _ (Nat.le_refl _)]
    · rcases Nat.lt_or_ge c (gd_m g) with h1 | h1
      · rw [if_neg e]
        unfold ff_r ff_x tb_v
        rw [if_pos (Nat.le_of_lt h1), if_neg e, if_neg e]
        by_cases hb : B.testBit c = true
        · rw [if_pos hb]; exact Int.mul_comm _ _
        · rw [if_neg hb]
          have : q c = 0 := by
            rcases Classical.em (q c = 0) with z | z
            · exact z
            · exact absurd (hq c z) hb
          rw [this]; simp
      · have h2 : ¬ c ≤ gd_m g := by omega
        rw [hq0 c h1]; simp [ff_r, h2]
  rw [e1, e2]; omega
theorem xa_d_l (n : Nat) (x : Nat → Int) : ∀ (qs : List Int) (vs : List (Nat → Int)), (∀ v, v ∈ vs → xa_d n v x = 0) → xa_d n (xb_l qs vs) x = 0
  | [], vs, _ => by
    rw [gd_d_s]; exact gd_s_z n (fun k _ => by simp [xb_l])
  | q :: qs, [], _ => by
    rw [gd_d_s]; exact gd_s_z n (fun k _ => by simp [xb_l])
  | q :: qs, v :: vs, h => by
    have ih := xa_d_l n x qs vs (fun u hu => h u (List.mem_cons_of_mem _ hu))
    have h1 := h v List.mem_cons_self
    rw [gd_d_s] at ih h1 ⊢
    have e : gd_s (fun i => xb_l (q :: qs) (v :: vs) i * x i) n = gd_s (fun i => q * (v i * x i) + 1 * (xb_l qs vs i * x i)) n := gd_s_congr n (fun i _ => by simp only [xb_l]; grind)
    rw [e, gd_s_lin, h1, ih]; simp
/-- kept ways and their columns -/
def ff_K (g : gd_T) (B : Nat) : List Nat → List Nat → Prop
  | [], [] => True
  | v :: ws, c :: cs => ff_K g B ws cs ∧ c < gd_m g ∧ v < 10 ∧ ff_p g B (c :: cs) (v :: ws) ≠ 0
  | _, _ => False
theorem ff_K_p {g : gd_T} {B : Nat} : ∀ {ws cs : List Nat}, ff_K g B ws cs → ff_p g B cs ws ≠ 0 ∧ cs.length = ws.length ∧ (∀ c, c ∈ cs → c < gd_m g) ∧ ∀ v, v ∈ ws → v < 10
  | [], [], _ => ⟨by have : ff_p g B [] [] = 1 := xb_p00 11
                     rw [this]; decide, rfl, fun c hc => (by cases hc), fun v hv => (by cases hv)⟩
  | v :: ws, c :: cs, h => by
    obtain ⟨h1, h2, h3, h4⟩ := h
    obtain ⟨i1, i2, i3, i4⟩ := ff_K_p h1
    refine ⟨h4, by simp [i2], fun x hx => ?_, fun x hx => ?_⟩
    · rcases List.mem_cons.mp hx with rfl | hx
      · exact h2
      · exact i3 x hx
    · rcases List.mem_cons.mp hx with rfl | hx
      · exact h3
      · exact i4 x hx
  | [], _ :: _, h => by cases h
  | _ :: _, [], h => by cases h
/-- the rows that are kept can be met, whatever the other columns are told -/
theorem ff_meet {g : gd_T} (hok : gd_ok g) {B : Nat} : ∀ {ws cs : List Nat}, ff_K g B ws cs → ∀ x : Nat → Int, ∃ (k : Int) (y : Nat → Int), k ≠ 0 ∧ (∀ c, c ∉ cs → y c = k * x c) ∧ ∀ v, v ∈ ws → xa_d 11 (ff_r g B v) y = 0
  | [], [], _, x => ⟨1, x, by decide, fun c _ => (Int.one_mul _).symm, fun v hv => (by cases hv)⟩
  | v :: ws, c :: cs, h, x => by
    have hm := gd_m_le hok
    obtain ⟨h1, h2, h3, h4⟩ := h
    obtain ⟨i1, i2, i3, i4⟩ := ff_K_p h1
    obtain ⟨qs, hql, hkey⟩ := xb_key 11 cs (ws.map (ff_r g B)) (ff_r g B v)
    generalize hR : (fun c' => ff_p g B (c' :: cs) (v :: ws)) = R at *
    have hRe : ∀ c', ff_p g B (c' :: cs) (v :: ws) = R c' := fun c' => by rw [← hR]
    have hRc : R c ≠ 0 := by rw [← hRe]; exact h4
    have hRk : ∀ c', c' < 11 → R c' = ff_p g B cs ws * ff_r g B v c' - xb_l qs (ws.map (ff_r g B)) c' := fun c' hc' => by rw [← hRe]; exact hkey c' hc'
    have hR0 : ∀ c', c' ∈ cs → R c' = 0 := fun c' hc' => by rw [← hRe]; exact xb_used 11 hc' _
    -- the new column takes what is left
    obtain ⟨k, y, hk, hy1, hy2⟩ := ff_meet hok h1 (fun j => if j = c then -(gd_s (fun j => if j = c then 0 else R j * x j) 11) else R c * x j)
    have hRy : xa_d 11 R y = 0 := by
      rw [gd_d_s]
      have e1 : gd_s (fun j => R j * y j) 11 = gd_s (fun j => k * (R j * (if j = c then -(gd_s (fun j => if j = c then 0 else R j * x j) 11) else R c * x j))) 11 := gd_s_congr 11 (fun j _ => by
        rcases Classical.em (j ∈ cs) with e | e
        · rw [hR0 j e]; simp
        · rw [hy1 j e]; grind)
      rw [e1, gd_s_mul, gd_s_pick (k := c) 11 (by omega)]
      have e2 : gd_s (fun j => if j = c then 0 else R j * (if j = c then -(gd_s (fun j => if j = c then 0 else R j * x j) 11) else R c * x j)) 11 = R c * gd_s (fun j => if j = c then 0 else R j * x j) 11 := by
        rw [← gd_s_mul]
        refine gd_s_congr 11 (fun j _ => ?_)
        by_cases e : j = c
        · simp [e]
        · simp only [e, if_false]; grind
      rw [e2]
      simp; grind
    refine ⟨k * R c, y, fun z => (Int.mul_eq_zero.mp z).elim hk hRc, fun c' hc' => ?_, fun u hu => ?_⟩
    · have n1 : c' ≠ c := fun e => hc' (by rw [e]; exact List.mem_cons_self)
      rw [hy1 c' (fun z => hc' (List.mem_cons_of_mem _ z)), if_neg n1, Int.mul_assoc]
    · rcases List.mem_cons.mp hu with rfl | hu
      · have hl0 : xa_d 11 (xb_l qs (ws.map (ff_r g B))) y = 0 := xa_d_l 11 y qs _ (fun z hz => by
          obtain ⟨u, hu, rfl⟩ := List.mem_map.mp hz
          exact hy2 u hu)
        have e3 : xa_d 11 R y = ff_p g B cs ws * xa_d 11 (ff_r g B u) y + (-1) * xa_d 11 (xb_l qs (ws.map (ff_r g B))) y := by
          rw [gd_d_s, gd_d_s, gd_d_s, ← gd_s_lin]
          exact gd_s_congr 11 (fun j hj => by rw [hRk j hj]; grind)
        rw [hRy, hl0] at e3
        have e4 : ff_p g B cs ws * xa_d 11 (ff_r g B u) y = 0 := by omega
        exact (Int.mul_eq_zero.mp e4).resolve_left i1
      · exact hy2 u hu
  | [], _ :: _, h, _ => by cases h
  | _ :: _, [], h, _ => by cases h
/-- columns that aren't of the set stay 0 -/
theorem ff_colB {g : gd_T} {B : Nat} : ∀ {ws cs : List Nat}, ff_K g B ws cs → ∀ c, c ∈ cs → B.testBit c = true
  | [], [], _, c, hc => by cases hc
  | v :: ws, c0 :: cs, h, c, hc => by
    obtain ⟨h1, h2, h3, h4⟩ := h
    rcases List.mem_cons.mp hc with rfl | hc
    · cases hb : B.testBit c with
      | true => rfl
      | false =>
        exfalso
        apply h4
        have e := xc_p_mask (fun j => decide (j ≠ c)) 11
        -- every row is 0 there: the contraction gives nothing
        have hz : ∀ v, ff_r g B v c = 0 := fun v => by
          unfold ff_r tb_v
          rw [if_pos (Nat.le_of_lt h2), if_neg (Nat.ne_of_lt h2), hb]; simp
        have hO : ∀ l : List Nat, xa_i (xa_e c) (xb_O (l.map (ff_r g B)) : xa_E 11) = xa_z 11 := fun l => xc_ann (xa_e c) _ (fun k hk => by
          obtain ⟨u, -, rfl⟩ := List.mem_map.mp hk
          rw [xa_d_e]
          split
          · exact hz u
          · rfl)
        show xa_0 (xb_I cs (xa_i (xa_e c) (xb_O ((v :: ws).map (ff_r g B)) : xa_E 11))) = 0
        rw [hO, xb_I_z, xa_0_z]
    · exact ff_colB h1 c hc
  | [], _ :: _, h, _, _ => by cases h
  | _ :: _, [], h, _, _ => by cases h
/-- as long as rows are kept, the ways so far can be met -/
theorem ff_sat {g : gd_T} (hok : gd_ok g) {B : Nat} (hB : B < 2 ^ gd_m g) {ws cs : List Nat} (hK : ff_K g B ws cs) {v : Nat} (hdep : ∀ x : Nat → Int, (∀ u, u ∈ ws → xa_d 11 (ff_r g B u) x = 0) → ∀ u, u ≤ v → xa_d 11 (ff_r g B u) x = 0) : ¬ gd_unt g B v := by
  intro hu
  obtain ⟨i1, i2, i3, i4⟩ := ff_K_p hK
  obtain ⟨k, y, hk, hy1, hy2⟩ := ff_meet hok hK (fun c => if c = gd_m g then -1 else 0)
  have hym : y (gd_m g) = -k := by
    rw [hy1 _ (fun z => absurd (i3 _ z) (Nat.lt_irrefl _))]; simp
  have hq : gd_in (fun c => if c = gd_m g then 0 else y c) B := fun c hc => by
    by_cases e : c = gd_m g
    · simp [e] at hc
    · simp only [e, if_false] at hc
      rcases Classical.em (c ∈ cs) with z | z
      · exact ff_colB hK c z
      · rw [hy1 c z] at hc; simp [e] at hc
  have hx : ff_x g k (fun c => if c = gd_m g then 0 else y c) = y := by
    funext c
    unfold ff_x
    by_cases e : c = gd_m g
    · subst e; simp [hym]
    · simp [e]
  have := hu k (fun c => if c = gd_m g then 0 else y c) hq (fun u hu => by
    have h1 := ff_dot hok hB k (fun c => if c = gd_m g then 0 else y c) hq u
    rw [hx, hdep y hy2 u hu] at h1
    omega)
  exact hk this
theorem ff_r_held {g : gd_T} {B v : Nat} (hf : gd_free g v = false) : ∀ c, ff_r g B v c = 0 := fun c => by
  unfold ff_r
  split
  · exact tb_v_held B c hf
  · rfl

/-! ===== rows and columns change places: seven rows at most are kept ===== -/
def ls_s (f : Nat → Int) : List Int → List Nat → Int
  | q :: qs, x :: xs => q * f x + ls_s f qs xs
  | _, _ => 0
theorem ls_l (F : Nat → Nat → Int) (c : Nat) : ∀ (qs : List Int) (xs : List Nat), xb_l qs (xs.map F) c = ls_s (fun x => F x c) qs xs
  | [], xs => by simp [xb_l, ls_s]
  | q :: qs, [] => by simp [xb_l, ls_s]
  | q :: qs, x :: xs => by
    simp only [List.map_cons, xb_l, ls_s, ls_l F c qs xs]
theorem ls_congr {f h : Nat → Int} : ∀ (qs : List Int) (xs : List Nat), (∀ x, x ∈ xs → f x = h x) → ls_s f qs xs = ls_s h qs xs
  | [], xs, _ => by simp [ls_s]
  | q :: qs, [], _ => by simp [ls_s]
  | q :: qs, x :: xs, e => by
    simp only [ls_s]
    rw [e x List.mem_cons_self, ls_congr qs xs (fun y hy => e y (List.mem_cons_of_mem _ hy))]
theorem ls_lin (a b : Int) (f h : Nat → Int) : ∀ (qs : List Int) (xs : List Nat), ls_s (fun x => a * f x + b * h x) qs xs = a * ls_s f qs xs + b * ls_s h qs xs
  | [], xs => by simp [ls_s]
  | q :: qs, [] => by simp [ls_s]
  | q :: qs, x :: xs => by
    simp only [ls_s, ls_lin a b f h qs xs]; grind
theorem ls_mul (a : Int) (f : Nat → Int) (qs : List Int) (xs : List Nat) : ls_s (fun x => a * f x) qs xs = a * ls_s f qs xs := by
  have := ls_lin a 0 f f qs xs
  simp only [Int.zero_mul, Int.add_zero] at this
  exact this
theorem ls_0 (qs : List Int) (xs : List Nat) : ls_s (fun _ => 0) qs xs = 0 := by
  have := ls_mul 0 (fun _ => 0) qs xs
  simpa using this
theorem ls_ex (M : Nat → Nat → Int) (ks : List Int) (cs : List Nat) : ∀ (qs : List Int) (us : List Nat), ls_s (fun u => ls_s (fun k => M u k) ks cs) qs us = ls_s (fun k => ls_s (fun u => M u k) qs us) ks cs
  | [], us => by simp only [ls_s]; exact (ls_0 ks cs).symm
  | q :: qs, [] => by simp only [ls_s]; exact (ls_0 ks cs).symm
  | q :: qs, u :: us => by
    simp only [ls_s]
    rw [ls_ex M ks cs qs us]
    have := ls_lin q 1 (fun k => M u k) (fun k => ls_s (fun u => M u k) qs us) ks cs
    simp only [Int.one_mul] at this
    exact this.symm
theorem ff_tr {g : gd_T} (hok : gd_ok g) {B : Nat} : ∀ {ws cs : List Nat}, ff_K g B ws cs → ff_p g B cs ws = xb_p 10 ws (cs.map (tb_v g B))
  | [], [], _ => by
    show xb_p 11 [] [] = xb_p 10 [] []
    rw [xb_p00, xb_p00]
  | v :: ws, c :: cs, h => by
    have hm := gd_m_le hok
    obtain ⟨h1, h2, h3, h4⟩ := h
    obtain ⟨i1, i2, i3, i4⟩ := ff_K_p h1
    have ih := ff_tr hok h1
    obtain ⟨qs, -, hE⟩ := xb_key 11 cs (ws.map (ff_r g B)) (ff_r g B v)
    obtain ⟨ks, -, hF⟩ := xb_key 10 ws (cs.map (tb_v g B)) (tb_v g B c)
    have hr : ∀ u k, k ≤ gd_m g → ff_r g B u k = tb_v g B k u := fun u k hk => by unfold ff_r; rw [if_pos hk]
    generalize hD : ff_p g B cs ws = D at *
    have hD' : xb_p 11 cs (ws.map (ff_r g B)) = D := hD
    have eE : ∀ k, k ≤ gd_m g → xb_p 11 (k :: cs) (ff_r g B v :: ws.map (ff_r g B)) = D * tb_v g B k v - ls_s (fun u => tb_v g B k u) qs ws := fun k hk => by
      rw [hE k (by omega), hD', hr v k hk, ls_l]
      congr 1
      exact ls_congr _ _ (fun u _ => hr u k hk)
    have eF : ∀ u, u < 10 → xb_p 10 (u :: ws) (tb_v g B c :: cs.map (tb_v g B)) = D * tb_v g B c u - ls_s (fun k => tb_v g B k u) ks cs := fun u hu => by
      rw [hF u hu, ← ih, ls_l]
    have zE : ∀ k, k ∈ cs → D * tb_v g B k v = ls_s (fun u => tb_v g B k u) qs ws := fun k hk => by
      have e := eE k (Nat.le_of_lt (i3 k hk))
      rw [xb_used 11 hk] at e
      omega
    have zF : ∀ u, u ∈ ws → D * tb_v g B c u = ls_s (fun k => tb_v g B k u) ks cs := fun u hu => by
      have e := eF u (i4 u hu)
      rw [xb_used 10 hu] at e
      omega
    have goal1 : D * ls_s (fun u => tb_v g B c u) qs ws = D * ls_s (fun k => tb_v g B k v) ks cs := by
      rw [← ls_mul, ls_congr qs ws zF, ls_ex (fun u k => tb_v g B k u) ks cs qs ws, ← ls_congr ks cs zE, ls_mul]
    have goal2 := Int.eq_of_mul_eq_mul_left i1 goal1
    show xb_p 11 (c :: cs) (ff_r g B v :: ws.map (ff_r g B)) = xb_p 10 (v :: ws) (tb_v g B c :: cs.map (tb_v g B))
    rw [eE c (Nat.le_of_lt h2), eF v h3, goal2]
  | [], _ :: _, h => by cases h
  | _ :: _, [], h => by cases h
theorem ff_nd {g : gd_T} {B : Nat} : ∀ {ws cs : List Nat}, ff_K g B ws cs → cs.Nodup
  | [], [], _ => List.nodup_nil
  | v :: ws, c :: cs, h => List.nodup_cons.mpr ⟨fun hc => h.2.2.2 (xb_used 11 hc _), ff_nd h.1⟩
  | [], _ :: _, h => by cases h
  | _ :: _, [], h => by cases h
theorem ff_7 {g : gd_T} (hok : gd_ok g) {B : Nat} : ∀ {ws cs : List Nat}, ff_K g B ws cs → ws.length ≤ 7
  | [], [], _ => by simp
  | v :: ws, c :: cs, h => by
    have ih := ff_7 hok h.1
    obtain ⟨i1, i2, i3, i4⟩ := ff_K_p h.1
    rcases Nat.lt_or_ge ws.length 7 with h1 | h1
    · exact h1
    · exfalso
      apply h.2.2.2
      rw [ff_tr hok h]
      exact tb_full hok B _ c cs h.2.1 i3 (by omega) (ff_nd h)
  | [], _ :: _, h => by cases h
  | _ :: _, [], h => by cases h
/-! ===== what lies in the span of kept rows ===== -/
def ff_V (g : gd_T) (B : Nat) (ws : List Nat) (R : Nat → Int) : Prop := ∀ x : Nat → Int, (∀ u, u ∈ ws → xa_d 11 (ff_r g B u) x = 0) → xa_d 11 R x = 0
theorem ff_V_lin {g : gd_T} {B : Nat} {ws : List Nat} {R S : Nat → Int} (a b : Int) (h1 : ff_V g B ws R) (h2 : ff_V g B ws S) : ff_V g B ws (fun c => a * R c + b * S c) := fun x hx => by
  have e1 := h1 x hx
  have e2 := h2 x hx
  rw [gd_d_s] at e1 e2 ⊢
  have e : gd_s (fun i => (a * R i + b * S i) * x i) 11 = gd_s (fun i => a * (R i * x i) + b * (S i * x i)) 11 := gd_s_congr 11 (fun i _ => by grind)
  rw [e, gd_s_lin, e1, e2]; simp
theorem ff_V_div {g : gd_T} {B : Nat} {ws : List Nat} {R S : Nat → Int} {d : Int} (hd : d ≠ 0) (h1 : ff_V g B ws R) (h : ∀ c, c < 11 → R c = d * S c) : ff_V g B ws S := fun x hx => by
  have e1 := h1 x hx
  rw [gd_d_s] at e1 ⊢
  have e : gd_s (fun i => R i * x i) 11 = gd_s (fun i => d * (S i * x i)) 11 := gd_s_congr 11 (fun i hi => by rw [h i hi]; grind)
  rw [e, gd_s_mul] at e1
  exact (Int.mul_eq_zero.mp e1).resolve_left hd
theorem ff_V_up {g : gd_T} {B : Nat} {ws : List Nat} {R : Nat → Int} (v : Nat) (h : ff_V g B ws R) : ff_V g B (v :: ws) R := fun x hx => h x (fun u hu => hx u (List.mem_cons_of_mem _ hu))
theorem ff_V_r {g : gd_T} {B : Nat} {ws : List Nat} {v : Nat} (h : v ∈ ws) : ff_V g B ws (ff_r g B v) := fun x hx => hx v h
theorem ff_V_zero {g : gd_T} (hok : gd_ok g) {B : Nat} {ws cs : List Nat} (hK : ff_K g B ws cs) {R : Nat → Int} (hV : ff_V g B ws R) (h0 : ∀ c, c ∈ cs → R c = 0) : ∀ c, c < 11 → R c = 0 := fun c hc => by
  obtain ⟨k, y, hk, hy1, hy2⟩ := ff_meet hok hK (xa_e c)
  have e1 := hV y hy2
  rw [gd_d_s] at e1
  have e : gd_s (fun i => R i * y i) 11 = gd_s (fun i => k * (R i * xa_e c i)) 11 := gd_s_congr 11 (fun i hi => by
    rcases Classical.em (i ∈ cs) with h | h
    · rw [h0 i h]; simp
    · rw [hy1 i h]; grind)
  rw [e, gd_s_mul, ← gd_d_s, xa_d_e, if_pos hc] at e1
  exact (Int.mul_eq_zero.mp e1).resolve_left hk
theorem xb_I_move {n : Nat} : ∀ (as : List Nat) (p : Nat) (bs : List Nat), ∃ s : Int, (s = 1 ∨ s = -1) ∧ ∀ x : xa_E n, xb_I (as ++ p :: bs) x = xa_s s (xb_I (as ++ bs) (xa_i (xa_e p) x))
  | [], p, bs => ⟨1, Or.inl rfl, fun x => by rw [xa_s_1]; rfl⟩
  | a :: as, p, bs => by
    obtain ⟨s, hs, h⟩ := xb_I_move as p bs
    refine ⟨-s, by omega, fun x => ?_⟩
    show xb_I (as ++ p :: bs) (xa_i (xa_e a) x) = xa_s (-s) (xb_I (as ++ bs) (xa_i (xa_e a) (xa_i (xa_e p) x)))
    rw [h, xa_ii (xa_e p), xb_I_s]
    apply xa_ext; intro m
    simp only [xa_cs]
    rcases hs with rfl | rfl <;> omega
/-- the row that a pivot would have, whole -/
theorem ff_X {g : gd_T} (hok : gd_ok g) {B : Nat} {ws cs : List Nat} (hK : ff_K g B ws cs) {p : Nat} (hp : p ∈ cs) : ∃ (X : Nat → Int) (s : Int), (s = 1 ∨ s = -1) ∧ ff_V g B ws X ∧ (∀ c, c ∈ cs → c ≠ p → X c = 0) ∧ X p = s * ff_p g B cs ws ∧ (∀ c, -67108864 < X c ∧ X c < 67108864) ∧ ∀ c, gd_m g < c → X c = 0 := by
  have hm := gd_m_le hok
  obtain ⟨i1, i2, i3, i4⟩ := ff_K_p hK
  have h7 := ff_7 hok hK
  obtain ⟨as, bs, e⟩ := List.append_of_mem hp
  obtain ⟨s, hs, hmv⟩ := xb_I_move (n := 11) as p bs
  obtain ⟨qs, -, hq⟩ := xb_lin (n := 11) (ws.map (ff_r g B)) (xb_f (as ++ bs)) (xb_f_a _) (xb_f_s _)
  have hX : ∀ c, ff_p g B (c :: (as ++ bs)) ws = xb_f (as ++ bs) (xa_i (xa_e c) (xb_O (ws.map (ff_r g B)) : xa_E 11)) := fun c => rfl
  refine ⟨fun c => ff_p g B (c :: (as ++ bs)) ws, s, hs, fun x hx => ?_, fun c hc hne => ?_, ?_, fun c => ff_all7 hok B _ ws i4 h7, fun c hc => ff_out hc _ _⟩
  · have e2 : xa_d 11 (fun c => ff_p g B (c :: (as ++ bs)) ws) x = xa_d 11 (xb_l qs (ws.map (ff_r g B))) x := by
      rw [gd_d_s, gd_d_s]
      exact gd_s_congr 11 (fun c hc => by simp only [hX]; rw [hq c hc])
    rw [e2]
    exact xa_d_l 11 x qs _ (fun z hz => by
      obtain ⟨u, hu, rfl⟩ := List.mem_map.mp hz
      exact hx u hu)
  · have : c ∈ as ++ bs := by
      rw [e] at hc
      simp only [List.mem_append, List.mem_cons] at hc ⊢
      rcases hc with h | h | h
      · exact Or.inl h
      · exact absurd h hne
      · exact Or.inr h
    exact xb_used 11 this _
  · have e3 : ff_p g B cs ws = s * ff_p g B (p :: (as ++ bs)) ws := by
      rw [e]
      show xa_0 (xb_I (as ++ p :: bs) (xb_O (ws.map (ff_r g B)) : xa_E 11)) = _
      rw [hmv, xa_0_s]; rfl
    simp only []
    rw [e3]
    rcases hs with rfl | rfl <;> simp

/-! ===== elimination without fractions: its cells are minors ===== -/
def xb_O {n : Nat} : List (Nat → Int) → xa_E n
  | [] => xa_1 n
  | k :: ks => xa_w k (xb_O ks)
def xb_I {n : Nat} : List Nat → xa_E n → xa_E n
  | [], x => x
  | r :: rs, x => xb_I rs (xa_i (xa_e r) x)
/-- the minor of these rows and columns -/
def xb_p (n : Nat) (rs : List Nat) (ks : List (Nat → Int)) : Int := xa_0 (xb_I rs (xb_O ks : xa_E n))
/-- a combination of columns -/
def xb_l : List Int → List (Nat → Int) → Nat → Int
  | q :: qs, k :: ks, r => q * k r + xb_l qs ks r
  | _, _, _ => 0
theorem xb_I_a {n : Nat} : ∀ (rs : List Nat) (x y : xa_E n), xb_I rs (xa_a x y) = xa_a (xb_I rs x) (xb_I rs y)
  | [], _, _ => rfl
  | r :: rs, x, y => by simp only [xb_I, xa_i_a, xb_I_a rs]
theorem xb_I_s {n : Nat} : ∀ (rs : List Nat) (k : Int) (x : xa_E n), xb_I rs (xa_s k x) = xa_s k (xb_I rs x)
  | [], _, _ => rfl
  | r :: rs, k, x => by simp only [xb_I, xa_i_s, xb_I_s rs]
theorem xb_I_z {n : Nat} : ∀ (rs : List Nat), xb_I rs (xa_z n) = xa_z n
  | [] => rfl
  | r :: rs => by simp only [xb_I, xa_i_z, xb_I_z rs]
theorem xb_I_n {n : Nat} : ∀ (rs : List Nat) (x : xa_E n), xb_I rs (xa_s (-1) x) = xa_s (-1) (xb_I rs x) := fun rs x => xb_I_s rs (-1) x
/-- the functional by which cells are read -/
def xb_f {n : Nat} (rs : List Nat) (x : xa_E n) : Int := xa_0 (xb_I rs x)
theorem xb_f_a {n : Nat} (rs : List Nat) (x y : xa_E n) : xb_f rs (xa_a x y) = xb_f rs x + xb_f rs y := by simp only [xb_f, xb_I_a, xa_0_a]
theorem xb_f_s {n : Nat} (rs : List Nat) (k : Int) (x : xa_E n) : xb_f rs (xa_s k x) = k * xb_f rs x := by simp only [xb_f, xb_I_s, xa_0_s]
theorem xb_f_z {n : Nat} (rs : List Nat) : xb_f rs (xa_z n) = 0 := by simp only [xb_f, xb_I_z, xa_0_z]
theorem xb_lin {n : Nat} : ∀ (ks : List (Nat → Int)) (f : xa_E n → Int), (∀ x y, f (xa_a x y) = f x + f y) → (∀ k x, f (xa_s k x) = k * f x) → ∃ qs : List Int, qs.length = ks.length ∧ ∀ r, r < n → f (xa_i (xa_e r) (xb_O ks)) = xb_l qs ks r
  | [], f, _, hs => ⟨[], rfl, fun r _ => by
      show f (xa_i (xa_e r) (xa_1 n)) = 0
      rw [xa_i_1, ← xa_s_0 (xa_z n), hs]; simp⟩
  | k :: ks, f, ha, hs => by
    obtain ⟨qs, hl, h⟩ := xb_lin ks (fun x => f (xa_w k x)) (fun x y => by rw [xa_w_a, ha]) (fun a x => by rw [xa_w_s, hs])
    refine ⟨f (xb_O ks) :: qs.map (fun q => -q), by simp [hl], fun r hr => ?_⟩
    have hneg : ∀ (qs : List Int) (ks : List (Nat → Int)), xb_l (qs.map (fun q => -q)) ks r = - xb_l qs ks r := by
      intro qs
      induction qs with
      | nil => intro ks; simp [xb_l]
      | cons q qs ih =>
        intro ks
        cases ks with
        | nil => simp [xb_l]
        | cons k ks => simp only [List.map_cons, xb_l, ih ks]; grind
    show f (xa_i (xa_e r) (xa_w k (xb_O ks))) = f (xb_O ks) * k r + xb_l (qs.map (fun q => -q)) ks r
    rw [xa_iw, ha, hs, hs, xa_d_e, if_pos hr, hneg, ← h r hr]
    grind
theorem xb_kill {n : Nat} : ∀ (ks : List (Nat → Int)) (k : Nat → Int), k ∈ ks → xa_w k (xb_O ks : xa_E n) = xa_z n
  | [], _, h => by cases h
  | c :: ks, k, h => by
    rcases List.mem_cons.mp h with rfl | h
    · exact xa_wc _ _
    · show xa_w k (xa_w c (xb_O ks)) = xa_z n
      rw [xa_ww, xb_kill ks k h, xa_w_z, xa_s_z]
theorem xb_killI {n : Nat} : ∀ (rs : List Nat) (r : Nat), r ∈ rs → ∀ x : xa_E n, xb_I rs (xa_i (xa_e r) x) = xa_z n
  | [], _, h, _ => by cases h
  | a :: rs, r, h, x => by
    rcases List.mem_cons.mp h with rfl | h
    · show xb_I rs (xa_i (xa_e r) (xa_i (xa_e r) x)) = xa_z n
      rw [xa_ic, xb_I_z]
    · show xb_I rs (xa_i (xa_e a) (xa_i (xa_e r) x)) = xa_z n
      rw [xa_ii, xb_I_s, xb_killI rs r h, xa_s_z]
theorem xb_pass {n : Nat} : ∀ (rs : List Nat) (V : Nat → Int), (∀ r, r ∈ rs → r < n → V r = 0) → ∀ y : xa_E n, xb_f rs (xa_w V y) = 0
  | [], V, _, y => xa_0_w V y
  | r :: rs, V, h, y => by
    show xb_f rs (xa_i (xa_e r) (xa_w V y)) = 0
    rw [xa_iw, xb_f_a, xb_f_s, xb_f_s, xb_pass rs V (fun q hq => h q (List.mem_cons_of_mem _ hq)), xa_d_e]
    by_cases hr : r < n
    · simp [hr, h r List.mem_cons_self hr]
    · simp [hr]
theorem xb_lkill {n : Nat} : ∀ (qs : List Int) (ks : List (Nat → Int)) (x : xa_E n), (∀ k, k ∈ ks → xa_w k x = xa_z n) → xa_w (xb_l qs ks) x = xa_z n
  | [], ks, x, _ => by
    have h : xa_w (xb_l [] ks) x = xa_w (fun i => 0 * (xb_l [] ks) i + 0 * (xb_l [] ks) i) x := xa_w_congr (fun i _ => by simp [xb_l]) x
    rw [h, xa_w_lin]; simp only [xa_s_0, xa_a_z]
  | q :: qs, [], x, _ => by
    have h : xa_w (xb_l (q :: qs) []) x = xa_w (fun i => 0 * (xb_l (q :: qs) []) i + 0 * (xb_l (q :: qs) []) i) x := xa_w_congr (fun i _ => by simp [xb_l]) x
    rw [h, xa_w_lin]; simp only [xa_s_0, xa_a_z]
  | q :: qs, k :: ks, x, h => by
    have e : xa_w (xb_l (q :: qs) (k :: ks)) x = xa_w (fun i => q * k i + 1 * xb_l qs ks i) x := xa_w_congr (fun i _ => by simp [xb_l]) x
    rw [e, xa_w_lin, h k List.mem_cons_self, xb_lkill qs ks x (fun k hk => h k (List.mem_cons_of_mem _ hk))]
    simp only [xa_s_z, xa_a_z]
/-- a cell: what is left of a column when those ahead are taken out -/
theorem xb_key (n : Nat) (rs : List Nat) (ks : List (Nat → Int)) (c : Nat → Int) : ∃ qs : List Int, qs.length = ks.length ∧ ∀ r, r < n → xb_p n (r :: rs) (c :: ks) = xb_p n rs ks * c r - xb_l qs ks r := by
  obtain ⟨qs, hl, h⟩ := xb_lin (n := n) ks (fun x => xb_f rs (xa_w c x)) (fun x y => by rw [xa_w_a, xb_f_a]) (fun k x => by rw [xa_w_s, xb_f_s])
  refine ⟨qs, hl, fun r hr => ?_⟩
  show xb_f rs (xa_i (xa_e r) (xa_w c (xb_O ks))) = xb_f rs (xb_O ks : xa_E n) * c r - xb_l qs ks r
  rw [xa_iw, xb_f_a, xb_f_s, xb_f_s, h r hr, xa_d_e, if_pos hr]
  grind
theorem xb_used (n : Nat) {rs : List Nat} {r : Nat} (h : r ∈ rs) (ks : List (Nat → Int)) : xb_p n (r :: rs) ks = 0 := by
  show xa_0 (xb_I rs (xa_i (xa_e r) (xb_O ks))) = 0
  rw [xb_killI rs r h, xa_0_z]
theorem xb_in (n : Nat) (rs : List Nat) {ks : List (Nat → Int)} {k : Nat → Int} (h : k ∈ ks) : xb_p n rs (k :: ks) = 0 := by
  show xa_0 (xb_I rs (xa_w k (xb_O ks))) = 0
  rw [xb_kill ks k h, xb_I_z, xa_0_z]
theorem xb_head_lin (n : Nat) (rs : List Nat) (ks : List (Nat → Int)) (a b : Int) (c d : Nat → Int) : xb_p n rs ((fun i => a * c i + b * d i) :: ks) = a * xb_p n rs (c :: ks) + b * xb_p n rs (d :: ks) := by
  show xb_f rs (xa_w _ (xb_O ks)) = a * xb_f rs (xa_w c (xb_O ks)) + b * xb_f rs (xa_w d (xb_O ks))
  rw [xa_w_lin, xb_f_a, xb_f_s, xb_f_s]
theorem xb_head_congr (n : Nat) (rs : List Nat) (ks : List (Nat → Int)) {c d : Nat → Int} (h : ∀ i, i < n → c i = d i) : xb_p n rs (c :: ks) = xb_p n rs (d :: ks) := by
  show xb_f rs (xa_w c (xb_O ks)) = xb_f rs (xa_w d (xb_O ks))
  rw [xa_w_congr h]
/-- THE STEP: the division by the pivot ahead leaves no rest -/
theorem xb_step (n : Nat) (rs : List Nat) (ks : List (Nat → Int)) (k c : Nat → Int) (r1 r : Nat) (h1 : r1 < n) (h2 : r < n) (hp : xb_p n rs ks ≠ 0) :
    xb_p n rs ks * xb_p n (r :: r1 :: rs) (c :: k :: ks) = xb_p n (r1 :: rs) (k :: ks) * xb_p n (r :: rs) (c :: ks) - xb_p n (r :: rs) (k :: ks) * xb_p n (r1 :: rs) (c :: ks) := by
  generalize hpe : xb_p n rs ks = p at hp
  obtain ⟨qc, -, hc⟩ := xb_key n rs ks c
  obtain ⟨qk, -, hk⟩ := xb_key n rs ks k
  rw [hpe] at hc hk
  generalize hVc : (fun i => xb_p n (i :: rs) (c :: ks)) = Vc
  generalize hVk : (fun i => xb_p n (i :: rs) (k :: ks)) = Vk
  have vc : ∀ i, xb_p n (i :: rs) (c :: ks) = Vc i := fun i => by rw [← hVc]
  have vk : ∀ i, xb_p n (i :: rs) (k :: ks) = Vk i := fun i => by rw [← hVk]
  have gen : ∀ (V c : Nat → Int) (qs : List Int), (∀ i, i < n → V i = p * c i - xb_l qs ks i) → ∀ x : xa_E n, (∀ k, k ∈ ks → xa_w k x = xa_z n) → xa_s p (xa_w c x) = xa_w V x := by
    intro V c qs hV x hx
    have e1 : xa_w V x = xa_w (fun i => p * c i + (-1) * xb_l qs ks i) x := xa_w_congr (fun i hi => by rw [hV i hi]; grind) x
    rw [e1, xa_w_lin, xb_lkill qs ks x hx, xa_s_z, xa_a_z]
  have hO : ∀ k, k ∈ ks → xa_w k (xb_O ks : xa_E n) = xa_z n := fun k hk => xb_kill ks k hk
  have g1 : xa_s p (xa_w k (xb_O ks : xa_E n)) = xa_w Vk (xb_O ks) := gen Vk k qk (fun i hi => by rw [← vk i, hk i hi]) _ hO
  have g2 : xa_s p (xa_w c (xa_w Vk (xb_O ks : xa_E n))) = xa_w Vc (xa_w Vk (xb_O ks)) := gen Vc c qc (fun i hi => by rw [← vc i, hc i hi]) _ (fun k hk => by rw [xa_ww, hO k hk, xa_w_z, xa_s_z])
  have g3 : xa_s p (xa_s p (xa_w c (xa_w k (xb_O ks : xa_E n)))) = xa_w Vc (xa_w Vk (xb_O ks)) := by
    rw [← xa_w_s, g1, g2]
  have zc : ∀ q, q ∈ rs → q < n → Vc q = 0 := fun q hq _ => by rw [← vc q]; exact xb_used n hq _
  have zk : ∀ q, q ∈ rs → q < n → Vk q = 0 := fun q hq _ => by rw [← vk q]; exact xb_used n hq _
  have hpf : xb_f rs (xb_O ks : xa_E n) = p := hpe
  have main : p * (p * xb_p n (r :: r1 :: rs) (c :: k :: ks)) = p * (Vk r1 * Vc r - Vk r * Vc r1) := by
    have e0 : p * (p * xb_p n (r :: r1 :: rs) (c :: k :: ks)) = xb_f rs (xa_i (xa_e r1) (xa_i (xa_e r) (xa_s p (xa_s p (xa_w c (xa_w k (xb_O ks : xa_E n))))))) := by
      simp only [xa_i_s, xb_f_s]; rfl
    rw [e0, g3]
    have iy : ∀ q, q < n → xa_i (xa_e q) (xa_w Vk (xb_O ks : xa_E n)) = xa_a (xa_s (Vk q) (xb_O ks)) (xa_s (-1) (xa_w Vk (xa_i (xa_e q) (xb_O ks)))) := fun q hq => by rw [xa_iw, xa_d_e, if_pos hq]
    have ic : ∀ q, q < n → ∀ y : xa_E n, xa_i (xa_e q) (xa_w Vc y) = xa_a (xa_s (Vc q) y) (xa_s (-1) (xa_w Vc (xa_i (xa_e q) y))) := fun q hq y => by rw [xa_iw, xa_d_e, if_pos hq]
    rw [ic r h2, xa_i_a, xa_i_s, xa_i_s, ic r1 h1]
    simp only [xb_f_a, xb_f_s, xb_pass rs Vc zc]
    rw [iy r1 h1, iy r h2]
    simp only [xb_f_a, xb_f_s, xb_pass rs Vk zk, hpf]
    grind
  rw [vk r1, vc r, vk r, vc r1]
  exact Int.eq_of_mul_eq_mul_left hp main
/-- independence -/
theorem xb_O_tor {n : Nat} {x : xa_E n} {q : Int} (h : xa_s q x = xa_z n) (hx : x ≠ xa_z n) : q = 0 := by
  rcases Int.decEq q 0 with hq | hq
  · exfalso
    apply hx
    apply xa_ext
    intro m
    have h1 : xa_c (xa_s q x) m = xa_c (xa_z n) m := by rw [h]
    rw [xa_cs, xa_cz] at h1
    rw [xa_cz]
    rcases Int.mul_eq_zero.mp h1 with h2 | h2
    · exact absurd h2 hq
    · exact h2
  · exact hq
theorem xb_ne {n : Nat} {rs : List Nat} {ks : List (Nat → Int)} (h : xb_p n rs ks ≠ 0) : (xb_O ks : xa_E n) ≠ xa_z n := by
  intro e
  apply h
  show xa_0 (xb_I rs (xb_O ks : xa_E n)) = 0
  rw [e, xb_I_z, xa_0_z]
theorem xb_indep {n : Nat} : ∀ (ks : List (Nat → Int)) (qs : List Int), (xb_O ks : xa_E n) ≠ xa_z n → qs.length = ks.length → (∀ r, r < n → xb_l qs ks r = 0) → ∀ q, q ∈ qs → q = 0
  | [], qs, _, hl, _, q, hq => by
    cases qs with
    | nil => cases hq
    | cons a b => simp at hl
  | k :: ks, [], _, hl, _, q, hq => by cases hq
  | k :: ks, a :: qs, hO, hl, h, q, hq => by
    have h0 : xa_w (xb_l (a :: qs) (k :: ks)) (xb_O ks : xa_E n) = xa_z n := by
      have e : xa_w (xb_l (a :: qs) (k :: ks)) (xb_O ks : xa_E n) = xa_w (fun i => 0 * k i + 0 * k i) (xb_O ks) := xa_w_congr (fun i hi => by rw [h i hi]; simp) _
      rw [e, xa_w_lin]; simp only [xa_s_0, xa_a_z]
    have e : xa_w (xb_l (a :: qs) (k :: ks)) (xb_O ks : xa_E n) = xa_w (fun i => a * k i + 1 * xb_l qs ks i) (xb_O ks) := xa_w_congr (fun i _ => by simp [xb_l]) _
    rw [e, xa_w_lin, xb_lkill qs ks _ (fun k hk => xb_kill ks k hk), xa_s_z, xa_a_z] at h0
    have ha : a = 0 := xb_O_tor h0 hO
    have hO2 : (xb_O ks : xa_E n) ≠ xa_z n := fun z => hO (by show xa_w k (xb_O ks) = _; rw [z, xa_w_z])
    rcases List.mem_cons.mp hq with rfl | hq
    · exact ha
    · exact xb_indep ks qs hO2 (by simpa using hl) (fun r hr => by have := h r hr; rw [ha] at this; simpa [xb_l] using this) q hq
/-! bounds -/
theorem xb_I_n2 {n : Nat} : ∀ (rs : List Nat) (x : xa_E n), xa_p (xb_I rs x) (xb_I rs x) ≤ xa_p x x
  | [], x => Int.le_refl _
  | r :: rs, x => by
    refine Int.le_trans (xb_I_n2 rs (xa_i (xa_e r) x)) ?_
    have h := xa_hadI (xa_e r) x
    have hn := xa_p_nn x
    rw [xa_d_e] at h
    by_cases hr : r < n
    · simp [hr, xa_e] at h; exact h
    · simp [hr] at h; omega
def xb_n (n : Nat) : List (Nat → Int) → Int
  | [] => 1
  | k :: ks => xa_d n k k * xb_n n ks
theorem xa_d_nn : ∀ (n : Nat) (c : Nat → Int), 0 ≤ xa_d n c c
  | 0, _ => Int.le_refl _
  | n + 1, c => Int.add_nonneg (xa_d_nn n c) (xa_sq _)
theorem xb_n_nn (n : Nat) : ∀ ks : List (Nat → Int), 0 ≤ xb_n n ks
  | [] => by show (0 : Int) ≤ 1; decide
  | k :: ks => Int.mul_nonneg (xa_d_nn n k) (xb_n_nn n ks)
theorem xb_O_n2 {n : Nat} : ∀ ks : List (Nat → Int), xa_p (xb_O ks : xa_E n) (xb_O ks) ≤ xb_n n ks
  | [] => by show xa_p (xa_1 n) (xa_1 n) ≤ 1; rw [xa_p_1]; exact Int.le_refl _
  | k :: ks => Int.le_trans (xa_had k (xb_O ks)) (Int.mul_le_mul_of_nonneg_left (xb_O_n2 ks) (xa_d_nn n k))
/-- HADAMARD -/
theorem xb_had (n : Nat) (rs : List Nat) (ks : List (Nat → Int)) : xb_p n rs ks * xb_p n rs ks ≤ xb_n n ks :=
  Int.le_trans (xa_sc_sq _) (Int.le_trans (xb_I_n2 rs _) (xb_O_n2 ks))
theorem xb_n_pow (n : Nat) (B : Int) (hB : 0 ≤ B) : ∀ ks : List (Nat → Int), (∀ k, k ∈ ks → xa_d n k k ≤ B) → xb_n n ks ≤ B ^ ks.length
  | [], _ => by simp [xb_n]
  | k :: ks, h => by
    have h1 := xb_n_pow n B hB ks (fun k hk => h k (List.mem_cons_of_mem _ hk))
    have h2 := h k List.mem_cons_self
    show xa_d n k k * xb_n n ks ≤ B ^ (ks.length + 1)
    rw [Int.pow_succ, Int.mul_comm (B ^ ks.length)]
    exact Int.le_trans (Int.mul_le_mul_of_nonneg_right h2 (xb_n_nn n ks)) (Int.mul_le_mul_of_nonneg_left h1 hB)

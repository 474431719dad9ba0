/-! ===== exterior algebra over Int: a + e_n ∧ b as a pair ===== -/
def xa_E : Nat → Type
  | 0 => Int
  | n + 1 => xa_E n × xa_E n
def xa_z : (n : Nat) → xa_E n
  | 0 => (0 : Int)
  | n + 1 => (xa_z n, xa_z n)
def xa_1 : (n : Nat) → xa_E n
  | 0 => (1 : Int)
  | n + 1 => (xa_1 n, xa_z n)
def xa_a : {n : Nat} → xa_E n → xa_E n → xa_E n
  | 0, x, y => (show Int from x) + (show Int from y)
  | _ + 1, x, y => (xa_a x.1 y.1, xa_a x.2 y.2)
def xa_s : {n : Nat} → Int → xa_E n → xa_E n
  | 0, k, x => k * (show Int from x)
  | _ + 1, k, x => (xa_s k x.1, xa_s k x.2)
def xa_c : {n : Nat} → xa_E n → Nat → Int
  | 0, x, _ => x
  | _ + 1, x, m => if m % 2 = 0 then xa_c x.1 (m / 2) else xa_c x.2 (m / 2)
def xa_w : {n : Nat} → (Nat → Int) → xa_E n → xa_E n
  | 0, _, _ => (0 : Int)
  | n + 1, c, x => (xa_w c x.1, xa_a (xa_s (c n) x.1) (xa_s (-1) (xa_w c x.2)))
def xa_i : {n : Nat} → (Nat → Int) → xa_E n → xa_E n
  | 0, _, _ => (0 : Int)
  | n + 1, d, x => (xa_a (xa_i d x.1) (xa_s (d n) x.2), xa_s (-1) (xa_i d x.2))
def xa_d : Nat → (Nat → Int) → (Nat → Int) → Int
  | 0, _, _ => 0
  | n + 1, c, d => xa_d n c d + c n * d n
/-- the scalar part -/
def xa_0 : {n : Nat} → xa_E n → Int
  | 0, x => x
  | _ + 1, x => xa_0 x.1
/-- the inner product -/
def xa_p : {n : Nat} → xa_E n → xa_E n → Int
  | 0, x, y => (show Int from x) * (show Int from y)
  | _ + 1, x, y => xa_p x.1 y.1 + xa_p x.2 y.2
theorem xa_ext : ∀ {n : Nat} {x y : xa_E n}, (∀ m, xa_c x m = xa_c y m) → x = y
  | 0, _, _, h => h 0
  | n + 1, (a, b), (c, d), h => by
    have h1 : a = c := xa_ext (fun m => by have := h (2 * m); simpa [xa_c] using this)
    have h2 : b = d := xa_ext (fun m => by
      have := h (2 * m + 1)
      have e1 : (2 * m + 1) % 2 = 1 := by omega
      have e2 : (2 * m + 1) / 2 = m := by omega
      simpa [xa_c, e1, e2] using this)
    rw [h1, h2]
theorem xa_cz : ∀ {n : Nat} (m : Nat), xa_c (xa_z n) m = 0
  | 0, _ => rfl
  | n + 1, m => by simp only [xa_c, xa_z]; split <;> exact xa_cz _
theorem xa_ca : ∀ {n : Nat} (x y : xa_E n) (m : Nat), xa_c (xa_a x y) m = xa_c x m + xa_c y m
  | 0, _, _, _ => rfl
  | n + 1, x, y, m => by simp only [xa_c, xa_a]; split <;> exact xa_ca _ _ _
theorem xa_cs : ∀ {n : Nat} (k : Int) (x : xa_E n) (m : Nat), xa_c (xa_s k x) m = k * xa_c x m
  | 0, _, _, _ => rfl
  | n + 1, k, x, m => by simp only [xa_c, xa_s]; split <;> exact xa_cs _ _ _
theorem xa_w_a : ∀ {n : Nat} (c : Nat → Int) (x y : xa_E n), xa_w c (xa_a x y) = xa_a (xa_w c x) (xa_w c y)
  | 0, _, _, _ => rfl
  | n + 1, c, x, y => by
    simp only [xa_w, xa_a, xa_w_a c]
    refine Prod.ext rfl ?_
    apply xa_ext; intro m; simp only [xa_ca, xa_cs]; grind
theorem xa_w_s : ∀ {n : Nat} (c : Nat → Int) (k : Int) (x : xa_E n), xa_w c (xa_s k x) = xa_s k (xa_w c x)
  | 0, _, _, _ => (Int.mul_zero _).symm
  | n + 1, c, k, x => by
    simp only [xa_w, xa_s, xa_w_s c]
    refine Prod.ext rfl ?_
    apply xa_ext; intro m; simp only [xa_ca, xa_cs]; grind
theorem xa_i_a : ∀ {n : Nat} (c : Nat → Int) (x y : xa_E n), xa_i c (xa_a x y) = xa_a (xa_i c x) (xa_i c y)
  | 0, _, _, _ => rfl
  | n + 1, c, x, y => by
    simp only [xa_i, xa_a, xa_i_a c]
    refine Prod.ext ?_ ?_ <;> (apply xa_ext; intro m; simp only [xa_ca, xa_cs]; grind)
theorem xa_i_s : ∀ {n : Nat} (c : Nat → Int) (k : Int) (x : xa_E n), xa_i c (xa_s k x) = xa_s k (xa_i c x)
  | 0, _, _, _ => (Int.mul_zero _).symm
  | n + 1, c, k, x => by
    simp only [xa_i, xa_s, xa_i_s c]
    refine Prod.ext ?_ ?_ <;> (apply xa_ext; intro m; simp only [xa_ca, xa_cs]; grind)
theorem xa_s_z {n : Nat} (k : Int) : xa_s k (xa_z n) = xa_z n := by apply xa_ext; intro m; simp [xa_cs, xa_cz]
theorem xa_s_0 {n : Nat} (x : xa_E n) : xa_s 0 x = xa_z n := by apply xa_ext; intro m; simp [xa_cs, xa_cz]
theorem xa_s_1 {n : Nat} (x : xa_E n) : xa_s 1 x = x := by apply xa_ext; intro m; simp [xa_cs]
theorem xa_w_z {n : Nat} (c : Nat → Int) : xa_w c (xa_z n) = xa_z n := by
  have h := xa_w_s c 0 (xa_z n)
  rwa [xa_s_0, xa_s_0] at h
theorem xa_i_z {n : Nat} (c : Nat → Int) : xa_i c (xa_z n) = xa_z n := by
  have h := xa_i_s c 0 (xa_z n)
  rwa [xa_s_0, xa_s_0] at h
theorem xa_a_z {n : Nat} (x : xa_E n) : xa_a x (xa_z n) = x := by apply xa_ext; intro m; simp [xa_ca, xa_cz]
theorem xa_z_a {n : Nat} (x : xa_E n) : xa_a (xa_z n) x = x := by apply xa_ext; intro m; simp [xa_ca, xa_cz]
/-- linear in the vector -/
theorem xa_w_lin : ∀ {n : Nat} (a b : Int) (c d : Nat → Int) (x : xa_E n), xa_w (fun i => a * c i + b * d i) x = xa_a (xa_s a (xa_w c x)) (xa_s b (xa_w d x))
  | 0, _, _, _, _, _ => by show (0 : Int) = _ * 0 + _ * 0; simp
  | n + 1, a, b, c, d, x => by
    simp only [xa_w, xa_s, xa_a, xa_w_lin a b c d]
    refine Prod.ext rfl ?_
    apply xa_ext; intro m; simp only [xa_ca, xa_cs]; grind
theorem xa_w_congr : ∀ {n : Nat} {c d : Nat → Int} (_ : ∀ i, i < n → c i = d i) (x : xa_E n), xa_w c x = xa_w d x
  | 0, _, _, _, _ => rfl
  | n + 1, c, d, h, x => by
    simp only [xa_w, xa_w_congr (fun i hi => h i (Nat.lt_succ_of_lt hi)), h n (Nat.lt_succ_self n)]
    rfl
theorem xa_i_congr : ∀ {n : Nat} {c d : Nat → Int} (_ : ∀ i, i < n → c i = d i) (x : xa_E n), xa_i c x = xa_i d x
  | 0, _, _, _, _ => rfl
  | n + 1, c, d, h, x => by
    simp only [xa_i, xa_i_congr (fun i hi => h i (Nat.lt_succ_of_lt hi)), h n (Nat.lt_succ_self n)]
    rfl
/-- c ∧ d ∧ x = - d ∧ c ∧ x -/
theorem xa_ww : ∀ {n : Nat} (c d : Nat → Int) (x : xa_E n), xa_w c (xa_w d x) = xa_s (-1) (xa_w d (xa_w c x))
  | 0, _, _, _ => rfl
  | n + 1, c, d, x => by
    simp only [xa_w, xa_s]
    refine Prod.ext (xa_ww c d x.1) ?_
    have h2 := xa_ww c d x.2
    simp only [xa_w_a, xa_w_s, h2]
    apply xa_ext; intro m; simp only [xa_ca, xa_cs]; grind
theorem xa_neg {n : Nat} {x : xa_E n} (h : x = xa_s (-1) x) : x = xa_z n := by
  apply xa_ext; intro m
  have h1 : xa_c x m = xa_c (xa_s (-1) x) m := by rw [← h]
  rw [xa_cs] at h1
  rw [xa_cz]
  omega
theorem xa_wc {n : Nat} (c : Nat → Int) (x : xa_E n) : xa_w c (xa_w c x) = xa_z n := xa_neg (xa_ww c c x)
theorem xa_ii : ∀ {n : Nat} (c d : Nat → Int) (x : xa_E n), xa_i c (xa_i d x) = xa_s (-1) (xa_i d (xa_i c x))
  | 0, _, _, _ => rfl
  | n + 1, c, d, x => by
    simp only [xa_i, xa_s]
    have h1 := xa_ii c d x.1
    have h2 := xa_ii c d x.2
    refine Prod.ext ?_ ?_
    · simp only [xa_i_a, xa_i_s, h1]
      apply xa_ext; intro m; simp only [xa_ca, xa_cs]; grind
    · simp only [xa_i_s, h2]
theorem xa_ic {n : Nat} (c : Nat → Int) (x : xa_E n) : xa_i c (xa_i c x) = xa_z n := xa_neg (xa_ii c c x)
/-- contraction is a derivation -/
theorem xa_iw : ∀ {n : Nat} (d c : Nat → Int) (x : xa_E n), xa_i d (xa_w c x) = xa_a (xa_s (xa_d n c d) x) (xa_s (-1) (xa_w c (xa_i d x)))
  | 0, _, _, x => by
    show (0 : Int) = 0 * (show Int from x) + -1 * 0
    rw [Int.zero_mul]; rfl
  | n + 1, d, c, x => by
    simp only [xa_i, xa_w, xa_s, xa_a, xa_d]
    have h1 := xa_iw d c x.1
    have h2 := xa_iw d c x.2
    refine Prod.ext ?_ ?_
    · simp only [h1, xa_w_a, xa_w_s]
      apply xa_ext; intro m; simp only [xa_ca, xa_cs]; grind
    · simp only [xa_i_a, xa_i_s, xa_w_s, h2]
      apply xa_ext; intro m; simp only [xa_ca, xa_cs]; grind
/-! the inner product -/
theorem xa_sq (a : Int) : 0 ≤ a * a := by
  rcases Int.le_total 0 a with h | h
  · exact Int.mul_nonneg h h
  · have := Int.mul_nonneg (Int.neg_nonneg_of_nonpos h) (Int.neg_nonneg_of_nonpos h)
    rwa [Int.neg_mul_neg] at this
theorem xa_p_comm : ∀ {n : Nat} (x y : xa_E n), xa_p x y = xa_p y x
  | 0, x, y => Int.mul_comm _ _
  | n + 1, x, y => by simp only [xa_p, xa_p_comm x.1 y.1, xa_p_comm x.2 y.2]
theorem xa_p_a : ∀ {n : Nat} (x y u : xa_E n), xa_p (xa_a x y) u = xa_p x u + xa_p y u
  | 0, x, y, u => Int.add_mul _ _ _
  | n + 1, x, y, u => by simp only [xa_p, xa_a, xa_p_a]; omega
theorem xa_p_s : ∀ {n : Nat} (k : Int) (x u : xa_E n), xa_p (xa_s k x) u = k * xa_p x u
  | 0, k, x, u => Int.mul_assoc _ _ _
  | n + 1, k, x, u => by simp only [xa_p, xa_s, xa_p_s, Int.mul_add]
theorem xa_p_a2 {n : Nat} (x y u : xa_E n) : xa_p u (xa_a x y) = xa_p u x + xa_p u y := by rw [xa_p_comm, xa_p_a, xa_p_comm x, xa_p_comm y]
theorem xa_p_s2 {n : Nat} (k : Int) (x u : xa_E n) : xa_p u (xa_s k x) = k * xa_p u x := by rw [xa_p_comm, xa_p_s, xa_p_comm x]
theorem xa_p_nn : ∀ {n : Nat} (x : xa_E n), 0 ≤ xa_p x x
  | 0, x => by
    show 0 ≤ (show Int from x) * (show Int from x)
    exact xa_sq _
  | n + 1, x => Int.add_nonneg (xa_p_nn x.1) (xa_p_nn x.2)
theorem xa_p_w : ∀ {n : Nat} (c : Nat → Int) (x y : xa_E n), xa_p (xa_w c x) y = xa_p x (xa_i c y)
  | 0, c, x, y => by
    show (0 : Int) * (show Int from y) = (show Int from x) * 0
    rw [Int.zero_mul, Int.mul_zero]
  | n + 1, c, x, y => by
    simp only [xa_p, xa_w, xa_i, xa_p_a, xa_p_s, xa_p_a2, xa_p_s2, xa_p_w c]
    omega
/-- HADAMARD, one column -/
theorem xa_had {n : Nat} (c : Nat → Int) (x : xa_E n) : xa_p (xa_w c x) (xa_w c x) ≤ xa_d n c c * xa_p x x := by
  have h1 : xa_p (xa_w c x) (xa_w c x) = xa_d n c c * xa_p x x - xa_p (xa_i c x) (xa_i c x) := by
    rw [xa_p_w, xa_iw, xa_p_a2, xa_p_s2, xa_p_s2, xa_p_comm x (xa_w c (xa_i c x)), xa_p_w]
    omega
  have := xa_p_nn (xa_i c x)
  omega
theorem xa_hadI {n : Nat} (d : Nat → Int) (x : xa_E n) : xa_p (xa_i d x) (xa_i d x) ≤ xa_d n d d * xa_p x x := by
  have h1 : xa_p (xa_i d x) (xa_i d x) = xa_d n d d * xa_p x x - xa_p (xa_w d x) (xa_w d x) := by
    have h := xa_p_w d (xa_i d x) x
    have h2 := xa_p_w d x (xa_w d x)
    rw [xa_iw, xa_p_a2, xa_p_s2, xa_p_s2, xa_p_comm x (xa_w d (xa_i d x)), h] at h2
    omega
  have := xa_p_nn (xa_w d x)
  omega
theorem xa_sc_sq : ∀ {n : Nat} (x : xa_E n), xa_0 x * xa_0 x ≤ xa_p x x
  | 0, x => Int.le_refl _
  | n + 1, x => by
    have h1 := xa_sc_sq x.1
    have h2 := xa_p_nn x.2
    simp only [xa_0, xa_p]
    omega
theorem xa_0_a : ∀ {n : Nat} (x y : xa_E n), xa_0 (xa_a x y) = xa_0 x + xa_0 y
  | 0, _, _ => rfl
  | n + 1, x, y => xa_0_a x.1 y.1
theorem xa_0_s : ∀ {n : Nat} (k : Int) (x : xa_E n), xa_0 (xa_s k x) = k * xa_0 x
  | 0, _, _ => rfl
  | n + 1, k, x => xa_0_s k x.1
theorem xa_0_z : ∀ {n : Nat}, xa_0 (xa_z n) = 0
  | 0 => rfl
  | n + 1 => xa_0_z (n := n)
theorem xa_0_w : ∀ {n : Nat} (c : Nat → Int) (x : xa_E n), xa_0 (xa_w c x) = 0
  | 0, _, _ => rfl
  | n + 1, c, x => xa_0_w c x.1
theorem xa_0_1 : ∀ {n : Nat}, xa_0 (xa_1 n) = 1
  | 0 => rfl
  | n + 1 => xa_0_1 (n := n)
theorem xa_p_1 : ∀ {n : Nat}, xa_p (xa_1 n) (xa_1 n) = 1
  | 0 => rfl
  | n + 1 => by
    simp only [xa_p, xa_1, xa_p_1]
    have : xa_p (xa_z n) (xa_z n) = 0 := by
      have h := xa_p_s 0 (xa_z n) (xa_z n)
      rw [xa_s_0] at h; simpa using h
    omega
theorem xa_i_1 : ∀ {n : Nat} (d : Nat → Int), xa_i d (xa_1 n) = xa_z n
  | 0, _ => rfl
  | n + 1, d => by
    simp only [xa_i, xa_1, xa_i_1 d, xa_i_z, xa_s_z, xa_a_z]
    rfl
/-! unit covectors -/
def xa_e (r : Nat) : Nat → Int := fun i => if i = r then 1 else 0
theorem xa_d_e : ∀ (n : Nat) (c : Nat → Int) (r : Nat), xa_d n c (xa_e r) = if r < n then c r else 0
  | 0, _, _ => by simp [xa_d]
  | n + 1, c, r => by
    simp only [xa_d, xa_d_e n c r, xa_e]
    by_cases h : n = r
    · subst h; simp
    · by_cases h2 : r < n
      · simp [h, h2, Nat.lt_succ_of_lt h2]
      · have : ¬ r < n + 1 := by omega
        simp [h, h2, this]

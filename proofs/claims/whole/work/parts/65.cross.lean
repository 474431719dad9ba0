/-! ===== crossings: what they are, and the class's ===== -/
def cx_w (g : gd_T) (a b : Nat) : Int := gd_run g a 0 * gd_run g b 1 - gd_run g a 1 * gd_run g b 0
def cx_dx (g : gd_T) (a b : Nat) : Int := g.2.1 (gd_les b) - g.2.1 (gd_les a)
def cx_dy (g : gd_T) (a b : Nat) : Int := g.2.2.1 (gd_les b) - g.2.2.1 (gd_les a)
def cx_s (g : gd_T) (a b : Nat) : Int := cx_dx g a b * gd_run g b 1 - cx_dy g a b * gd_run g b 0
def cx_t (g : gd_T) (a b : Nat) : Int := cx_dx g a b * gd_run g a 1 - cx_dy g a b * gd_run g a 0
def cx_i (p w : Int) : Prop := (0 < w ∧ 0 < p ∧ p < w) ∨ (w < 0 ∧ p < 0 ∧ w < p)
def cx_x (g : gd_T) (a b : Nat) : Prop := cx_i (cx_s g a b) (cx_w g a b) ∧ cx_i (cx_t g a b) (cx_w g a b)
def cx_X (g : gd_T) (a b : Nat) : Int := g.2.1 (gd_les a) * cx_w g a b + cx_s g a b * gd_run g a 0
def cx_Y (g : gd_T) (a b : Nat) : Int := g.2.2.1 (gd_les a) * cx_w g a b + cx_s g a b * gd_run g a 1
theorem cx_apart {g : gd_T} {a b : Nat} (h : cx_x g a b) : gd_les a ≠ gd_les b ∧ gd_les a ≠ gd_gre b ∧ gd_gre a ≠ gd_les b ∧ gd_gre a ≠ gd_gre b := by
  unfold cx_x cx_i at h
  have r0 : ∀ k, gd_run g k 0 = g.2.1 (gd_gre k) - g.2.1 (gd_les k) := fun k => rfl
  have r1 : ∀ k, gd_run g k 1 = g.2.2.1 (gd_gre k) - g.2.2.1 (gd_les k) := fun k => rfl
  refine ⟨fun e => ?_, fun e => ?_, fun e => ?_, fun e => ?_⟩
  · have : cx_s g a b = 0 := by
      unfold cx_s cx_dx cx_dy
      rw [e]; simp
    omega
  · have : cx_s g a b = 0 := by
      unfold cx_s cx_dx cx_dy
      rw [r0, r1, e]; grind
    omega
  · have : cx_t g a b = 0 := by
      unfold cx_t cx_dx cx_dy
      rw [r0, r1, e]; grind
    omega
  · have : cx_s g a b = cx_w g a b := by
      unfold cx_s cx_w cx_dx cx_dy
      rw [r0, r1, r0, r1, e]; grind
    omega
theorem cx_mul {x y : Int} {A B : Nat} (h1 : x.natAbs ≤ A) (h2 : y.natAbs ≤ B) : (x * y).natAbs ≤ A * B := by
  rw [Int.natAbs_mul]
  exact Nat.mul_le_mul h1 h2
theorem cx_bd {g : gd_T} (hok : gd_ok g) {a b : Nat} (ha : a < gd_m g) (hb : b < gd_m g) : ((cx_w g a b).natAbs ≤ 32 ∧ (cx_s g a b).natAbs ≤ 32 ∧ (cx_t g a b).natAbs ≤ 32) ∧ ((cx_X g a b).natAbs ≤ 256 ∧ (cx_Y g a b).natAbs ≤ 256) ∧ ((gd_run g a 0).natAbs ≤ 4 ∧ (gd_run g a 1).natAbs ≤ 4 ∧ (gd_run g b 0).natAbs ≤ 4 ∧ (gd_run g b 1).natAbs ≤ 4) ∧ ((g.2.1 (gd_les a)).natAbs ≤ 4 ∧ (g.2.2.1 (gd_les a)).natAbs ≤ 4) ∧ (cx_dx g a b).natAbs ≤ 4 ∧ (cx_dy g a b).natAbs ≤ 4 := by
  obtain ⟨o1, o2, -, -⟩ := hok
  obtain ⟨a1, a2⟩ := gd_pts g.1 o1 a ha
  obtain ⟨b1, b2⟩ := gd_pts g.1 o1 b hb
  have p1 := o2 _ a1
  have p2 := o2 _ a2
  have p3 := o2 _ b1
  have p4 := o2 _ b2
  have r0 : ∀ k, gd_run g k 0 = g.2.1 (gd_gre k) - g.2.1 (gd_les k) := fun k => rfl
  have r1 : ∀ k, gd_run g k 1 = g.2.2.1 (gd_gre k) - g.2.2.1 (gd_les k) := fun k => rfl
  have q1 : (gd_run g a 0).natAbs ≤ 4 := by rw [r0]; omega
  have q2 : (gd_run g a 1).natAbs ≤ 4 := by rw [r1]; omega
  have q3 : (gd_run g b 0).natAbs ≤ 4 := by rw [r0]; omega
  have q4 : (gd_run g b 1).natAbs ≤ 4 := by rw [r1]; omega
  have q5 : (cx_dx g a b).natAbs ≤ 4 := by unfold cx_dx; omega
  have q6 : (cx_dy g a b).natAbs ≤ 4 := by unfold cx_dy; omega
  have q7 : (g.2.1 (gd_les a)).natAbs ≤ 4 := by omega
  have q8 : (g.2.2.1 (gd_les a)).natAbs ≤ 4 := by omega
  have w1 := cx_mul q1 q4
  have w2 := cx_mul q2 q3
  have w3 := cx_mul q5 q4
  have w4 := cx_mul q6 q3
  have w5 := cx_mul q5 q2
  have w6 := cx_mul q6 q1
  have m1 : (cx_w g a b).natAbs ≤ 32 := by unfold cx_w; omega
  have m2 : (cx_s g a b).natAbs ≤ 32 := by unfold cx_s; omega
  have m3 : (cx_t g a b).natAbs ≤ 32 := by unfold cx_t; omega
  have n1 := cx_mul q7 m1
  have n2 := cx_mul m2 q1
  have n3 := cx_mul q8 m1
  have n4 := cx_mul m2 q2
  exact ⟨⟨m1, m2, m3⟩, ⟨by unfold cx_X; omega, by unfold cx_Y; omega⟩, ⟨q1, q2, q3, q4⟩, ⟨q7, q8⟩, q5, q6⟩
theorem nn_I_ab {x : Int} (h : x.natAbs ≤ 1000) : nn_I x := ⟨by omega, by omega⟩
theorem nn_L_ab {x : Int} (h : x.natAbs ≤ 1000) : nn_L x := ⟨by omega, by omega⟩
/-! the crossings of a set, in their order -/
noncomputable def cx_b (g : gd_T) (S a : Nat) : Nat → Nat → List (Nat × Nat)
  | _, 0 => []
  | b, d + 1 => @ite (List (Nat × Nat)) (S.testBit a = true ∧ S.testBit b = true ∧ cx_x g a b) (Classical.propDecidable _) ((a, b) :: cx_b g S a (b + 1) d) (cx_b g S a (b + 1) d)
noncomputable def cx_a (g : gd_T) (S : Nat) : Nat → Nat → List (Nat × Nat)
  | _, 0 => []
  | a, d + 1 => cx_b g S a (a + 1) (9 - a) ++ cx_a g S (a + 1) d
noncomputable def cx_l (g : gd_T) (S : Nat) : List (Nat × Nat) := cx_a g S 0 10
theorem cx_b_y {g : gd_T} {S a b d : Nat} (h : S.testBit a = true ∧ S.testBit b = true ∧ cx_x g a b) : cx_b g S a b (d + 1) = (a, b) :: cx_b g S a (b + 1) d := by
  show @ite _ _ (Classical.propDecidable _) _ _ = _
  rw [if_pos h]
theorem cx_b_n {g : gd_T} {S a b d : Nat} (h : ¬ (S.testBit a = true ∧ S.testBit b = true ∧ cx_x g a b)) : cx_b g S a b (d + 1) = cx_b g S a (b + 1) d := by
  show @ite _ _ (Classical.propDecidable _) _ _ = _
  rw [if_neg h]
theorem cx_b_len (g : gd_T) (S a : Nat) : ∀ d b, (cx_b g S a b d).length ≤ d := by
  intro d
  induction d with
  | zero => intro b; exact Nat.le_refl _
  | succ d ih =>
    intro b
    rcases Classical.em (S.testBit a = true ∧ S.testBit b = true ∧ cx_x g a b) with h | h
    · rw [cx_b_y h, List.length_cons]
      have := ih (b + 1)
      omega
    · rw [cx_b_n h]
      have := ih (b + 1)
      omega
theorem cx_a_len (g : gd_T) (S : Nat) : ∀ d a, (cx_a g S a d).length ≤ 9 * d := by
  intro d
  induction d with
  | zero => intro a; exact Nat.le_refl _
  | succ d ih =>
    intro a
    show (cx_b g S a (a + 1) (9 - a) ++ cx_a g S (a + 1) d).length ≤ _
    rw [List.length_append]
    have h1 := cx_b_len g S a (9 - a) (a + 1)
    have h2 := ih (a + 1)
    omega
theorem cx_l_len (g : gd_T) (S : Nat) : (cx_l g S).length ≤ 90 := cx_a_len g S 10 0
theorem cx_b_mem {g : gd_T} {S a : Nat} : ∀ d b ab, ab ∈ cx_b g S a b d → S.testBit ab.1 = true ∧ S.testBit ab.2 = true ∧ cx_x g ab.1 ab.2 := by
  intro d
  induction d with
  | zero => intro b ab h; cases h
  | succ d ih =>
    intro b ab h
    rcases Classical.em (S.testBit a = true ∧ S.testBit b = true ∧ cx_x g a b) with q | q
    · rw [cx_b_y q] at h
      rcases List.mem_cons.mp h with e | e
      · rw [e]; exact q
      · exact ih _ _ e
    · rw [cx_b_n q] at h
      exact ih _ _ h
theorem cx_a_mem {g : gd_T} {S : Nat} : ∀ d a ab, ab ∈ cx_a g S a d → S.testBit ab.1 = true ∧ S.testBit ab.2 = true ∧ cx_x g ab.1 ab.2 := by
  intro d
  induction d with
  | zero => intro b ab h; cases h
  | succ d ih =>
    intro a ab h
    rcases List.mem_append.mp h with e | e
    · exact cx_b_mem _ _ _ e
    · exact ih _ _ e
theorem cx_b_big {g : gd_T} {S a m : Nat} (hS : S < 2 ^ m) : ∀ d b, m ≤ b → cx_b g S a b d = [] := by
  intro d
  induction d with
  | zero => intro b _; rfl
  | succ d ih =>
    intro b hb
    rw [cx_b_n (fun q => by rw [gd_big hS hb] at q; exact absurd q.2.1 (by decide))]
    exact ih (b + 1) (by omega)
theorem cx_a_big {g : gd_T} {S m : Nat} (hS : S < 2 ^ m) : ∀ d a, m ≤ a → cx_a g S a d = [] := by
  intro d
  induction d with
  | zero => intro a _; rfl
  | succ d ih =>
    intro a ha
    show cx_b g S a (a + 1) (9 - a) ++ cx_a g S (a + 1) d = []
    rw [cx_b_big hS _ _ (by omega), ih (a + 1) (by omega)]
    rfl
theorem cx_tb {S m k : Nat} (hS : S < 2 ^ m) (h : S.testBit k = true) : k < m := by
  rcases Nat.lt_or_ge k m with q | q
  · exact q
  · rw [gd_big hS q] at h; cases h
/-! the class -/
def cx_48 (g : gd_T) (a b : Nat) (u : wo_T) : Prop := u.1 48 0 = nI a ∧ u.1 48 1 = nI b ∧ u.2 48 4 = nn_l (cx_w g a b) ∧ u.2 48 2 = nn_l (cx_X g a b) ∧ u.2 48 3 = nn_l (cx_Y g a b)
section
variable {K : jj_K} {w : wo_T}
theorem c_isInside {P : Int32 → wo_T → Prop} {p q : Int} (hp : nn_I p) (hq : nn_I q) (k1 : cx_i p q → P 1 w) (k0 : ¬ cx_i p q → P 0 w) : jj_Ci K mX1_isInside [.int (nn_i p), .int (nn_i q)] w P := by
  have z : nn_I 0 := by constructor <;> decide
  have a1 : nn_i q ≤ 0 ↔ q ≤ 0 := nn_i_le (b := 0) hq z
  have a2 : 0 ≤ nn_i p ↔ 0 ≤ p := nn_i_le (a := 0) z hp
  have a3 : nn_i p ≤ nn_i q ↔ p ≤ q := nn_i_le hp hq
  have a4 : nn_i p ≤ 0 ↔ p ≤ 0 := nn_i_le (b := 0) hp z
  have a5 : nn_i q ≤ nn_i p ↔ q ≤ p := nn_i_le hq hp
  apply en_X1_isInside
  rw [a1, a2, a3, a4, a5]
  unfold cx_i at k1 k0
  exact ⟨fun h1 => ⟨fun h2 => k0 (by omega), fun h2 => ⟨fun h3 => k0 (by omega), fun h3 => k1 (by omega)⟩⟩, fun h1 => ⟨fun h2 => k0 (by omega), fun h2 => ⟨fun h3 => k0 (by omega), fun h3 => k1 (by omega)⟩⟩⟩
theorem c_meet {P : Int32 → wo_T → Prop} (h : gc_ok w) {a b : Nat} (ha : a < gd_m (gc_g w)) (hb : b < gd_m (gc_g w)) (k1 : cx_x (gc_g w) a b → ∀ u, wo_fr [48] [48] w u → cx_48 (gc_g w) a b u → P 1 u) (k0 : ¬ cx_x (gc_g w) a b → P 0 w) : jj_Ci K mX1_meet [.ref 48, .ref 1, .int (nI a), .int (nI b)] w P := by
  have hm := gc_m h
  obtain ⟨⟨m1, m2, m3⟩, ⟨m4, m5⟩, ⟨q1, q2, q3, q4⟩, ⟨q7, q8⟩, q5, q6⟩ := cx_bd h.1 ha hb
  have la : gd_les a < 5 := by have := gd_les_gre a (by omega); omega
  have lb : gd_les b < 5 := by have := gd_les_gre b (by omega); omega
  obtain ⟨ra0, ra1, -⟩ := h.2.2.2 a ha
  obtain ⟨rb0, rb1, -⟩ := h.2.2.2 b hb
  have xa : w.1 2 (2 * gd_les a) = nn_i ((gc_g w).2.1 (gd_les a)) := nn_i_of _
  have xb : w.1 2 (2 * gd_les b) = nn_i ((gc_g w).2.1 (gd_les b)) := nn_i_of _
  have ya : w.1 2 (2 * gd_les a + 1) = nn_i ((gc_g w).2.2.1 (gd_les a)) := nn_i_of _
  have yb : w.1 2 (2 * gd_les b + 1) = nn_i ((gc_g w).2.2.1 (gd_les b)) := nn_i_of _
  generalize gc_g w = g at *
  apply en_X1_meet
  simp only [nn_two, nn_ad1]
  rw [nI_clamp (n := a) (by omega), nI_clamp (n := b) (by omega), wo_les_n a (by omega), wo_les_n b (by omega)]
  simp only [nn_two, nn_ad1]
  rw [nI_clamp (n := 2 * a) (by omega), nI_clamp (n := 2 * a + 1) (by omega), nI_clamp (n := 2 * b) (by omega), nI_clamp (n := 2 * b + 1) (by omega), nI_clamp (n := 2 * gd_les a) (by omega), nI_clamp (n := 2 * gd_les a + 1) (by omega), nI_clamp (n := 2 * gd_les b) (by omega), nI_clamp (n := 2 * gd_les b + 1) (by omega)]
  refine ⟨nn_inn (by omega) (by decide), fun x1 e1 => ⟨nn_inn (by omega) (by decide), fun x2 e2 => ⟨nn_inn (by omega) (by decide), fun x3 e3 => ⟨nn_inn (by omega) (by decide), fun x4 e4 => ⟨nn_inn (by omega) (by decide), nn_inn (by omega) (by decide), fun x5 e5 => ⟨nn_inn (by omega) (by decide), nn_inn (by omega) (by decide), fun x6 e6 => ⟨nn_inn (by omega) (by decide), nn_inn (by omega) (by decide), fun x7 e7 => ⟨nn_inn (by omega) (by decide), nn_inn (by omega) (by decide), fun x8 e8 x9 e9 x10 e10 x11 e11 => ?_⟩⟩⟩⟩⟩⟩⟩⟩
  rw [ra0] at e1
  rw [ra1] at e2
  rw [rb0] at e3
  rw [rb1] at e4
  rw [xa] at e5
  rw [ya] at e6
  rw [xb, e5, nn_i_sub] at e7
  rw [yb, e6, nn_i_sub] at e8
  have f9 : x9 = nn_i (cx_w g a b) := by rw [e9, e1, e2, e3, e4, nn_i_mul, nn_i_mul, nn_i_sub]; rfl
  have f10 : x10 = nn_i (cx_s g a b) := by rw [e10, e7, e8, e3, e4, nn_i_mul, nn_i_mul, nn_i_sub]; rfl
  have f11 : x11 = nn_i (cx_t g a b) := by rw [e11, e7, e8, e1, e2, nn_i_mul, nn_i_mul, nn_i_sub]; rfl
  rw [f9, f10, f11]
  refine c_isInside (nn_I_ab (by omega)) (nn_I_ab (by omega)) (fun h1 => ⟨fun q => absurd q (by decide), fun _ => ?_⟩) (fun h1 => ⟨fun _ => k0 (fun q => h1 q.1), fun q => absurd rfl q⟩)
  refine c_isInside (nn_I_ab (by omega)) (nn_I_ab (by omega)) (fun h2 => ⟨fun _ => ?_, fun q => absurd q (by decide)⟩) (fun h2 => ⟨fun q => absurd rfl q, fun _ => k0 (fun q => h2 q.2)⟩)
  rw [e1, e2, e5, e6, nn_i_l (nn_I_ab (by omega)), nn_i_l (nn_I_ab (by omega)), nn_i_l (nn_I_ab (by omega)), nn_i_l (nn_I_ab (by omega)), nn_i_l (nn_I_ab (by omega)), nn_i_l (nn_I_ab (by omega)), nn_l_mul, nn_l_mul, nn_l_mul, nn_l_mul, nn_l_add, nn_l_add]
  refine k1 ⟨h1, h2⟩ _ (wo_fr_l (wo_fr_l (wo_fr_l (wo_fr_i (wo_fr_i (wo_fr_rf _ _ _) (by simp) _ _) (by simp) _ _) (by simp) _ _) (by simp) _ _) (by simp) _ _) ⟨?_, ?_, ?_, ?_, ?_⟩
  · rw [wo_l_1, wo_l_1, wo_l_1, wo_i_nk (by decide), wo_i_eq]
  · rw [wo_l_1, wo_l_1, wo_l_1, wo_i_eq]
  · rw [wo_l_nk (by decide), wo_l_nk (by decide), wo_l_eq]
  · rw [wo_l_nk (by decide), wo_l_eq]; rfl
  · rw [wo_l_eq]; rfl
def cx_p (g : gd_T) (wt : Int32) (R : List (Nat × Nat)) (p : Nat) (r : Int32) (u : wo_T) : Prop := (∃ i ab, R[i]? = some ab ∧ wt = nI (p + i) ∧ r = nI (p + i + 1) ∧ cx_48 g ab.1 ab.2 u) ∨ ((∀ i, i < R.length → wt ≠ nI (p + i)) ∧ r = nI (p + R.length))
theorem cx_p_cons {g : gd_T} {wt : Int32} {R : List (Nat × Nat)} {ab : Nat × Nat} {p : Nat} {r : Int32} {u : wo_T} (hne : ¬ wt = nI p) (h : cx_p g wt R (p + 1) r u) : cx_p g wt (ab :: R) p r u := by
  rcases h with ⟨i, cd, h1, h2, h3, h4⟩ | ⟨h1, h2⟩
  · exact Or.inl ⟨i + 1, cd, by simpa using h1, by rw [h2]; congr 1; omega, by rw [h3]; congr 1; omega, h4⟩
  · refine Or.inr ⟨fun i hi => ?_, by rw [h2, List.length_cons]; congr 1; omega⟩
    cases i with
    | zero => exact hne
    | succ i =>
      have := h1 i (by simpa using hi)
      rw [show p + (i + 1) = p + 1 + i by omega]
      exact this
theorem c_pass {P : Int32 → wo_T → Prop} (h : gc_ok w) {S : Nat} (hS : S < 2 ^ gd_m (gc_g w)) (wt : Int32) (k : ∀ u r, wo_fr [48] [48] w u → cx_p (gc_g w) wt (cx_l (gc_g w) S) 0 r u → P r u) : jj_Ci K mX1_pass [.ref 48, .ref 1, .int (nI S), .int wt] w P := by
  have hm := gc_m h
  obtain ⟨e10, e11⟩ := ev_lt hm
  have hgu : ∀ u, wo_fr [48] [48] w u → gc_g u = gc_g w := fun u hu => gc_g_eq (fun b hb => hu.1 b (by simp; omega))
  have hou : ∀ u, wo_fr [48] [48] w u → gc_ok u := fun u hu => gc_ok_eq (fun b hb => hu.1 b (by simp; omega)) h
  generalize hg : gc_g w = g at *
  have inner : ∀ a T, a < 10 → (∀ p z, wo_fr [48] [48] w z → (∀ u r, wo_fr [48] [48] w u → cx_p g wt T p r u → P r u) → jj_J K mX1_pass (jj_Ri P) 6 [(0, .ref 48), (1, .ref 1), (2, .int (nI S)), (3, .int wt), (4, .int (nI p)), (5, .int (nI (a + 1)))] [] z) →
      ∀ d b p z, b + d = 10 → wo_fr [48] [48] w z → (∀ u r, wo_fr [48] [48] w u → cx_p g wt (cx_b g S a b d ++ T) p r u → P r u) → jj_J K mX1_pass (jj_Ri P) 19 [(0, .ref 48), (1, .ref 1), (2, .int (nI S)), (3, .int wt), (4, .int (nI p)), (5, .int (nI a)), (6, .int (nI b))] [] z := by
    intro a T ha hout d
    induction d with
    | zero =>
      intro b p z hb hz hk
      apply vc_X1_pass_19
      rw [nn_ad1]
      exact ⟨fun _ => hout p z hz hk, fun q => absurd (nI_le (a := 10) (by omega) (by omega)) q⟩
    | succ d ih =>
      intro b p z hb hz hk
      apply vc_X1_pass_19
      rw [nn_bit0 (by omega) (by omega), nn_bit0 (by omega) (by omega), nn_ad1, nn_ad1, nn_ad1]
      have sk : ¬ (S.testBit a = true ∧ S.testBit b = true ∧ cx_x g a b) → jj_J K mX1_pass (jj_Ri P) 19 [(0, .ref 48), (1, .ref 1), (2, .int (nI S)), (3, .int wt), (4, .int (nI p)), (5, .int (nI a)), (6, .int (nI (b + 1)))] [] z := fun q => ih (b + 1) p z (by omega) hz (fun u r hu hp => hk u r hu (by rw [cx_b_n q]; exact hp))
      refine ⟨fun q => absurd q (nI_ge (a := b) (b := 10) (by omega) (by omega)), fun _ => ⟨fun q => sk (fun t => by rw [t.1] at q; cases q), fun qa => ⟨fun q => sk (fun t => by rw [t.2.1] at q; cases q), fun qb => ?_⟩⟩⟩
      have ta : S.testBit a = true := by simpa using qa
      have tb : S.testBit b = true := by simpa using qb
      refine c_meet (hou z hz) (by rw [hgu z hz]; exact cx_tb hS ta) (by rw [hgu z hz]; exact cx_tb hS tb) (fun hx u hu h48 => ⟨fun q => absurd q (by decide), fun _ => ?_⟩) (fun hx => ⟨fun _ => sk (fun t => hx (by rw [hgu z hz]; exact t.2.2)), fun q => absurd rfl q⟩)
      rw [hgu z hz] at hx h48
      have ec : cx_b g S a b (d + 1) = (a, b) :: cx_b g S a (b + 1) d := cx_b_y ⟨ta, tb, hx⟩
      have e1 : nI (p + 1) - 1 = nI p := by rw [nn_pred, nn_nI]; congr 1; omega
      rw [e1]
      refine ⟨fun q => ih (b + 1) (p + 1) u (by omega) (wo_fr_tr hz hu) (fun u' r hu' hp => hk u' r hu' ?_), fun q => hk u _ (wo_fr_tr hz hu) ?_⟩
      · rw [ec]
        exact cx_p_cons (fun e => q e.symm) hp
      · rw [ec]
        exact Or.inl ⟨0, (a, b), rfl, q.symm, rfl, h48⟩
  have outer : ∀ d a p z, a + d = 10 → wo_fr [48] [48] w z → (∀ u r, wo_fr [48] [48] w u → cx_p g wt (cx_a g S a d) p r u → P r u) → jj_J K mX1_pass (jj_Ri P) 6 [(0, .ref 48), (1, .ref 1), (2, .int (nI S)), (3, .int wt), (4, .int (nI p)), (5, .int (nI a))] [] z := by
    intro d
    induction d with
    | zero =>
      intro a p z ha hz hk
      apply vc_X1_pass_6
      exact ⟨fun _ => hk z _ hz (Or.inr ⟨fun i hi => absurd hi (Nat.not_lt_zero i), rfl⟩), fun q => absurd (nI_le (a := 10) (by omega) (by omega)) q⟩
    | succ d ih =>
      intro a p z ha hz hk
      apply vc_X1_pass_6
      refine ⟨fun q => absurd q (nI_ge (a := a) (b := 10) (by omega) (by omega)), fun _ x ex => ?_⟩
      rw [ex, nn_ad1]
      refine inner a (cx_a g S (a + 1) d) (by omega) (fun p' z' hz' hk' => ih (a + 1) p' z' (by omega) hz' hk') (9 - a) (a + 1) p z (by omega) hz hk
  apply en_X1_pass
  exact outer 10 0 0 w (by omega) (wo_fr_rf _ _ _) k
end

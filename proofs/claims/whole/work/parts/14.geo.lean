/-! ===== the ground: points, where they are, in what they are held, loads by way ===== -/
abbrev gd_T : Type := Nat × (Nat → Int) × (Nat → Int) × (Nat → Nat) × (Nat → Int)
def gd_m (g : gd_T) : Nat := g.1 * (g.1 - 1) / 2
def gd_les (k : Nat) : Nat := match k with
  | 0 => 0 | 1 => 0 | 2 => 1 | 3 => 0 | 4 => 1 | 5 => 2 | 6 => 0 | 7 => 1 | 8 => 2 | _ => 3
def gd_gre (k : Nat) : Nat := match k with
  | 0 => 1 | 1 => 2 | 2 => 2 | 3 => 3 | 4 => 3 | 5 => 3 | _ => 4
def gd_run (g : gd_T) (k ax : Nat) : Int := if ax = 0 then g.2.1 (gd_gre k) - g.2.1 (gd_les k) else g.2.2.1 (gd_gre k) - g.2.2.1 (gd_les k)
def gd_quad (g : gd_T) (k : Nat) : Int := gd_run g k 0 * gd_run g k 0 + gd_run g k 1 * gd_run g k 1
def gd_free (g : gd_T) (w : Nat) : Bool := decide (w < 2 * g.1) && !(g.2.2.2.1 (w / 2)).testBit (w % 2)
def gd_br (g : gd_T) (k w : Nat) : Int := if w / 2 = gd_les k then gd_run g k (w % 2) else if w / 2 = gd_gre k then -gd_run g k (w % 2) else 0
def gd_col (g : gd_T) (k : Nat) : Nat → Int := fun w => if gd_free g w then gd_br g k w else 0
def gd_rhs (g : gd_T) : Nat → Int := fun w => if gd_free g w then -(g.2.2.2.2 w) else 0
def gd_ok (g : gd_T) : Prop := g.1 ≤ 5 ∧ (∀ p, p < g.1 → 0 ≤ g.2.1 p ∧ g.2.1 p ≤ 4 ∧ 0 ≤ g.2.2.1 p ∧ g.2.2.1 p ≤ 4) ∧ (∀ p q, p < g.1 → q < g.1 → p ≠ q → ¬ (g.2.1 p = g.2.1 q ∧ g.2.2.1 p = g.2.2.1 q)) ∧ ∀ w, w < 2 * g.1 → -9 ≤ g.2.2.2.2 w ∧ g.2.2.2.2 w ≤ 9
/-- sums -/
def gd_s (f : Nat → Int) : Nat → Int
  | 0 => 0
  | n + 1 => gd_s f n + f n
theorem gd_s_congr {f h : Nat → Int} : ∀ n, (∀ k, k < n → f k = h k) → gd_s f n = gd_s h n
  | 0, _ => rfl
  | n + 1, e => by simp only [gd_s, gd_s_congr n (fun k hk => e k (Nat.lt_succ_of_lt hk)), e n (Nat.lt_succ_self n)]
theorem gd_s_lin (a b : Int) (f h : Nat → Int) : ∀ n, gd_s (fun k => a * f k + b * h k) n = a * gd_s f n + b * gd_s h n
  | 0 => by simp [gd_s]
  | n + 1 => by simp only [gd_s, gd_s_lin a b f h n]; grind
theorem gd_s_mul (a : Int) (f : Nat → Int) : ∀ n, gd_s (fun k => a * f k) n = a * gd_s f n
  | 0 => by simp [gd_s]
  | n + 1 => by simp only [gd_s, gd_s_mul a f n]; grind
theorem gd_s_0 : ∀ n, gd_s (fun _ => 0) n = 0
  | 0 => rfl
  | n + 1 => by simp [gd_s, gd_s_0 n]
theorem gd_s_z {f : Nat → Int} (n : Nat) (h : ∀ k, k < n → f k = 0) : gd_s f n = 0 := (gd_s_congr n h).trans (gd_s_0 n)
theorem gd_s_nn {f : Nat → Int} : ∀ n, (∀ k, k < n → 0 ≤ f k) → 0 ≤ gd_s f n
  | 0, _ => Int.le_refl _
  | n + 1, h => Int.add_nonneg (gd_s_nn n (fun k hk => h k (Nat.lt_succ_of_lt hk))) (h n (Nat.lt_succ_self n))
theorem gd_s_le {f h : Nat → Int} : ∀ n, (∀ k, k < n → f k ≤ h k) → gd_s f n ≤ gd_s h n
  | 0, _ => Int.le_refl _
  | n + 1, e => Int.add_le_add (gd_s_le n (fun k hk => e k (Nat.lt_succ_of_lt hk))) (e n (Nat.lt_succ_self n))
theorem gd_d_s (c d : Nat → Int) : ∀ n, xa_d n c d = gd_s (fun i => c i * d i) n
  | 0 => rfl
  | n + 1 => by simp only [xa_d, gd_s, gd_d_s c d n]
/-! ===== sets of pairs as bits ===== -/
def gd_sub (a b : Nat) : Prop := ∀ k, a.testBit k = true → b.testBit k = true
theorem gd_sub_le {a b : Nat} (h : gd_sub a b) : a ≤ b := by
  have e : a &&& b = a := by
    apply Nat.eq_of_testBit_eq
    intro k
    rw [Nat.testBit_and]
    cases hk : a.testBit k with
    | false => rfl
    | true => rw [h k hk]; rfl
  rw [← e]
  exact Nat.and_le_right
theorem gd_sub_trans {a b c : Nat} (h : gd_sub a b) (h2 : gd_sub b c) : gd_sub a c := fun k hk => h2 k (h k hk)
def gd_bits (f : Nat → Bool) : Nat → Nat
  | 0 => 0
  | n + 1 => gd_bits f n + if f n then 2 ^ n else 0
theorem gd_bits_lt (f : Nat → Bool) : ∀ n, gd_bits f n < 2 ^ n
  | 0 => by simp [gd_bits]
  | n + 1 => by
    have h := gd_bits_lt f n
    simp only [gd_bits, Nat.pow_succ]
    split <;> omega
theorem gd_tb_add {s k : Nat} (h : s < 2 ^ k) (j : Nat) : (s + 2 ^ k).testBit j = (decide (j = k) || s.testBit j) := by
  have e := Nat.testBit_two_pow_mul_add 1 h j
  rw [Nat.mul_one, Nat.add_comm] at e
  rw [e]
  by_cases h1 : j < k
  · have : ¬ j = k := by omega
    simp [h1, this]
  · have hs : s.testBit j = false := Nat.testBit_lt_two_pow (Nat.lt_of_lt_of_le h (Nat.pow_le_pow_right (by decide) (by omega)))
    rw [if_neg h1, hs]
    by_cases h2 : j = k
    · subst h2; simp
    · have h3 : (1 : Nat).testBit (j - k) = false := by
        have : (1 : Nat) < 2 ^ (j - k) := Nat.one_lt_two_pow (by omega)
        exact Nat.testBit_lt_two_pow this
      simp [h2, h3]
theorem gd_bits_tb (f : Nat → Bool) : ∀ n k, (gd_bits f n).testBit k = (decide (k < n) && f k)
  | 0, k => by simp [gd_bits]
  | n + 1, k => by
    have hlt := gd_bits_lt f n
    have ih := gd_bits_tb f n k
    simp only [gd_bits]
    by_cases hf : f n = true
    · rw [if_pos hf, gd_tb_add hlt, ih]
      by_cases hk : k < n
      · have : ¬ k = n := by omega
        simp [hk, Nat.lt_succ_of_lt hk, this]
      · by_cases hk2 : k = n
        · subst hk2; simp [hf]
        · have : ¬ k < n + 1 := by omega
          simp [hk, hk2, this]
    · rw [if_neg hf, Nat.add_zero, ih]
      by_cases hk : k < n
      · simp [hk, Nat.lt_succ_of_lt hk]
      · by_cases hk2 : k = n
        · subst hk2; simp [hf]
        · have : ¬ k < n + 1 := by omega
          simp [hk, this]
theorem gd_big {s m k : Nat} (h : s < 2 ^ m) (hk : m ≤ k) : s.testBit k = false := Nat.testBit_lt_two_pow (Nat.lt_of_lt_of_le h (Nat.pow_le_pow_right (by decide) hk))
/-! ===== bearing ===== -/
def gd_app (g : gd_T) (q : Nat → Int) (w : Nat) : Int := gd_s (fun k => q k * gd_col g k w) 10
def gd_in (q : Nat → Int) (S : Nat) : Prop := ∀ k, q k ≠ 0 → S.testBit k = true
def gd_sol (g : gd_T) (S : Nat) (p : Int) (q : Nat → Int) : Prop := gd_in q S ∧ ∀ w, w < 10 → gd_app g q w = p * gd_rhs g w
def gd_ind (g : gd_T) (S : Nat) : Prop := ∀ q, gd_in q S → (∀ w, w < 10 → gd_app g q w = 0) → ∀ k, q k = 0
def gd_brs (g : gd_T) (S : Nat) : Prop := gd_ind g S ∧ ∃ p q, p ≠ 0 ∧ gd_sol g S p q
def gd_val (g : gd_T) (S : Nat) : Prop := gd_ind g S ∧ ∃ p q, p ≠ 0 ∧ gd_sol g S p q ∧ ∀ k, S.testBit k = true → q k ≠ 0
def gd_v (g : gd_T) (q : Nat → Int) : Int := gd_s (fun k => gd_quad g k * ((q k).natAbs : Int)) 10
def gd_vol (g : gd_T) (S : Nat) (a b : Int) : Prop := 0 < b ∧ ∃ p q, p ≠ 0 ∧ gd_sol g S p q ∧ a * (p.natAbs : Int) = b * gd_v g q
theorem gd_app_lin (g : gd_T) (a b : Int) (q r : Nat → Int) (w : Nat) : gd_app g (fun k => a * q k + b * r k) w = a * gd_app g q w + b * gd_app g r w := by
  unfold gd_app
  rw [← gd_s_lin]
  exact gd_s_congr 10 (fun k _ => by grind)
theorem gd_same {g : gd_T} {S : Nat} {p p' : Int} {q q' : Nat → Int} (hi : gd_ind g S) (h : gd_sol g S p q) (h' : gd_sol g S p' q') (k : Nat) : p' * q k = p * q' k := by
  have h0 := hi (fun k => p' * q k + (-p) * q' k) (fun k hk => by
      rcases Classical.em (q k = 0) with e | e
      · rcases Classical.em (q' k = 0) with e' | e'
        · exact absurd (by simp only [e, e']; simp) hk
        · exact h'.1 k e'
      · exact h.1 k e) (fun w hw => by
      rw [gd_app_lin, h.2 w hw, h'.2 w hw]; grind) k
  have : p' * q k + -p * q' k = 0 := h0
  grind
theorem gd_quad_nn (g : gd_T) (k : Nat) : 0 ≤ gd_quad g k := Int.add_nonneg (xa_sq _) (xa_sq _)
theorem gd_v_nn (g : gd_T) (q : Nat → Int) : 0 ≤ gd_v g q := gd_s_nn 10 (fun k _ => Int.mul_nonneg (gd_quad_nn g k) (by omega))
theorem gd_v_mul (g : gd_T) (a : Int) (q : Nat → Int) : gd_v g (fun k => a * q k) = (a.natAbs : Int) * gd_v g q := by
  unfold gd_v
  rw [← gd_s_mul]
  exact gd_s_congr 10 (fun k _ => by rw [Int.natAbs_mul]; simp only [Int.natCast_mul]; grind)
theorem gd_vol_same {g : gd_T} {S : Nat} {a b a' b' : Int} (hi : gd_ind g S) (h : gd_vol g S a b) (h' : gd_vol g S a' b') : a * b' = a' * b := by
  obtain ⟨hb, p, q, hp, hs, hv⟩ := h
  obtain ⟨hb', p', q', hp', hs', hv'⟩ := h'
  have e : (p'.natAbs : Int) * gd_v g q = (p.natAbs : Int) * gd_v g q' := by
    rw [← gd_v_mul, ← gd_v_mul]
    exact congrArg (gd_v g) (funext fun k => gd_same hi hs hs' k)
  have h1 : (p.natAbs : Int) ≠ 0 := by omega
  have h2 : (p'.natAbs : Int) ≠ 0 := by omega
  apply Int.eq_of_mul_eq_mul_left h1
  apply Int.eq_of_mul_eq_mul_left h2
  generalize (p.natAbs : Int) = P at *
  generalize (p'.natAbs : Int) = P' at *
  generalize gd_v g q = V at *
  generalize gd_v g q' = V' at *
  have e1 : P' * (P * (a * b')) = P' * b' * (a * P) := by grind
  have e2 : P' * (P * (a' * b)) = P * b * (a' * P') := by grind
  rw [e1, e2, hv, hv']
  have e3 : P' * b' * (b * V) = b * b' * (P' * V) := by grind
  have e4 : P * b * (b' * V') = b * b' * (P * V') := by grind
  rw [e3, e4, e]
theorem gd_vol_ex {g : gd_T} {S : Nat} (h : gd_brs g S) : ∃ a b, gd_vol g S a b := by
  obtain ⟨-, p, q, hp, hs⟩ := h
  exact ⟨gd_v g q, (p.natAbs : Int), by omega, p, q, hp, hs, Int.mul_comm _ _⟩
/-- of sets within B the one that bears with the least volume, of like ones the least -/
def gd_bst (ok : Nat → Prop) (g : gd_T) (B S : Nat) : Prop := gd_sub S B ∧ S < 2 ^ gd_m g ∧ ok S ∧ ∀ T, T < 2 ^ gd_m g → gd_sub T B → ok T → ∀ a b a' b', gd_vol g S a b → gd_vol g T a' b' → a * b' < a' * b ∨ (a * b' = a' * b ∧ S ≤ T)
def gd_best (g : gd_T) (B S : Nat) : Prop := gd_bst (gd_brs g) g B S
def gd_none (g : gd_T) (B : Nat) : Prop := ∀ T, T < 2 ^ gd_m g → gd_sub T B → ¬ gd_brs g T
theorem gd_best_uniq {g : gd_T} {B S T : Nat} (h : gd_best g B S) (h' : gd_best g B T) : S = T := by
  obtain ⟨a, b, hv⟩ := gd_vol_ex h.2.2.1
  obtain ⟨a', b', hv'⟩ := gd_vol_ex h'.2.2.1
  have h1 := h.2.2.2 T h'.2.1 h'.1 h'.2.2.1 a b a' b' hv hv'
  have h2 := h'.2.2.2 S h.2.1 h.1 h.2.2.1 a' b' a b hv' hv
  omega
theorem gd_best_none {g : gd_T} {B S : Nat} (h : gd_best g B S) (h' : gd_none g B) : False := h' S h.2.1 h.1 h.2.2.1
/-- what a set that bears uses -/
theorem gd_supp {g : gd_T} {T : Nat} (hT : T < 2 ^ gd_m g) (hm : gd_m g ≤ 10) (h : gd_brs g T) : ∃ S, gd_sub S T ∧ S < 2 ^ gd_m g ∧ gd_val g S ∧ ∀ a b, gd_vol g T a b → gd_vol g S a b := by
  obtain ⟨hi, p, q, hp, hs⟩ := h
  have hq : ∀ k, 10 ≤ k → q k = 0 := fun k hk => by
    rcases Classical.em (q k = 0) with e | e
    · exact e
    · have := hs.1 k e
      rw [gd_big hT (by omega)] at this
      cases this
  have hsub : gd_sub (gd_bits (fun k => decide (q k ≠ 0)) 10) T := fun k hk => by
    rw [gd_bits_tb] at hk
    simp only [Bool.and_eq_true, decide_eq_true_eq] at hk
    exact hs.1 k hk.2
  have hin : gd_in q (gd_bits (fun k => decide (q k ≠ 0)) 10) := fun k hk => by
    rw [gd_bits_tb]
    rcases Nat.lt_or_ge k 10 with h1 | h1
    · simp [h1, hk]
    · exact absurd (hq k h1) hk
  have hi2 : gd_ind g (gd_bits (fun k => decide (q k ≠ 0)) 10) := fun r hr => hi r (fun k hk => hsub k (hr k hk))
  refine ⟨_, hsub, Nat.lt_of_le_of_lt (gd_sub_le hsub) hT, ⟨hi2, p, q, hp, ⟨hin, hs.2⟩, fun k hk => ?_⟩, fun a b hv => ?_⟩
  · rw [gd_bits_tb] at hk
    simp only [Bool.and_eq_true, decide_eq_true_eq] at hk
    exact hk.2
  · obtain ⟨hb, p2, q2, hp2, hs2, hv2⟩ := hv
    refine ⟨hb, p2, q2, hp2, ⟨fun k hk => ?_, hs2.2⟩, hv2⟩
    have e := gd_same hi hs hs2 k
    apply hin k
    intro e0
    rw [e0, Int.mul_zero] at e
    rcases Int.mul_eq_zero.mp e.symm with h1 | h1
    · exact hp h1
    · exact hk h1
theorem gd_val_brs {g : gd_T} {S : Nat} (h : gd_val g S) : gd_brs g S := ⟨h.1, by obtain ⟨-, p, q, hp, hs, -⟩ := h; exact ⟨p, q, hp, hs⟩⟩
/-- the best of those without a bar to spare is the best of all -/
theorem gd_bestV {g : gd_T} (hm : gd_m g ≤ 10) {B S : Nat} (h : gd_bst (gd_val g) g B S) : gd_best g B S := by
  refine ⟨h.1, h.2.1, gd_val_brs h.2.2.1, fun T hT hTB hb a b a' b' hv hv' => ?_⟩
  obtain ⟨T', h1, h2, h3, h4⟩ := gd_supp hT hm hb
  have h5 := h.2.2.2 T' h2 (gd_sub_trans h1 hTB) h3 a b a' b' hv (h4 a' b' hv')
  have h6 := gd_sub_le h1
  omega
theorem gd_noneV {g : gd_T} (hm : gd_m g ≤ 10) {B : Nat} (h : ∀ T, T < 2 ^ gd_m g → gd_sub T B → ¬ gd_val g T) : gd_none g B := by
  intro T hT hTB hb
  obtain ⟨T', h1, h2, h3, -⟩ := gd_supp hT hm hb
  exact h T' h2 (gd_sub_trans h1 hTB) h3
/-- two sets without a bar to spare: none is part of the other -/
theorem gd_anti {g : gd_T} {S T : Nat} (hS : gd_val g S) (hT : gd_val g T) (h : gd_sub S T) : S = T := by
  obtain ⟨-, p, q, hp, hs, hn⟩ := hS
  obtain ⟨hi, p', q', hp', hs', hn'⟩ := hT
  apply Nat.eq_of_testBit_eq
  intro k
  have e := gd_same hi (⟨fun k hk => h k (hs.1 k hk), hs.2⟩ : gd_sol g T p q) hs' k
  cases hk : T.testBit k with
  | true =>
    cases hk2 : S.testBit k with
    | true => rfl
    | false =>
      have hq : q k = 0 := by
        rcases Classical.em (q k = 0) with e1 | e1
        · exact e1
        · have := hs.1 k e1
          rw [hk2] at this; cases this
      rw [hq, Int.mul_zero] at e
      rcases Int.mul_eq_zero.mp e.symm with h1 | h1
      · exact absurd h1 hp
      · exact absurd h1 (hn' k hk)
  | false =>
    cases hk2 : S.testBit k with
    | true => have := h k hk2; rw [hk] at this; cases this
    | false => rfl
/-! ===== the first way that fails ===== -/
def gd_unt (g : gd_T) (S w : Nat) : Prop := ∀ p q, gd_in q S → (∀ v, v ≤ w → gd_app g q v = p * gd_rhs g v) → p = 0
def gd_flt (g : gd_T) (S : Nat) (f : Int) : Prop := (f = -1 ∧ ¬ gd_unt g S 9) ∨ ∃ w : Nat, w < 10 ∧ f = w ∧ gd_unt g S w ∧ ∀ v, v < w → ¬ gd_unt g S v
theorem gd_unt_mono {g : gd_T} {S v w : Nat} (h : v ≤ w) (hu : gd_unt g S v) : gd_unt g S w := fun p q hq hw => hu p q hq (fun x hx => hw x (by omega))
theorem gd_flt_uniq {g : gd_T} {S : Nat} {f f' : Int} (h : gd_flt g S f) (h' : gd_flt g S f') : f = f' := by
  rcases h with ⟨rfl, h1⟩ | ⟨w, h1, rfl, h2, h3⟩
  · rcases h' with ⟨rfl, -⟩ | ⟨w', h4, rfl, h5, -⟩
    · rfl
    · exact absurd (gd_unt_mono (by omega) h5) h1
  · rcases h' with ⟨rfl, h4⟩ | ⟨w', h4, rfl, h5, h6⟩
    · exact absurd (gd_unt_mono (by omega) h2) h4
    · rcases Nat.lt_trichotomy w w' with h7 | h7 | h7
      · exact absurd h2 (h6 w h7)
      · rw [h7]
      · exact absurd h5 (h3 w' h7)

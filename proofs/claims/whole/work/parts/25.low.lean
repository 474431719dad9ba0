/-! ===== lowest terms ===== -/
def fr_n (a b : Int) : Int := b.sign * (a / (Int.gcd a b : Int))
def fr_d (a b : Int) : Int := b.sign * (b / (Int.gcd a b : Int))
theorem fr_gcd_pos {a b : Int} (hb : b ≠ 0) : 0 < Int.gcd a b := by
  rcases Nat.eq_zero_or_pos (Int.gcd a b) with h | h
  · rw [Int.gcd_eq_zero_iff] at h; exact absurd h.2 hb
  · exact h
theorem fr_spec {a b : Int} (hb : b ≠ 0) : 0 < fr_d a b ∧ Int.gcd (fr_n a b) (fr_d a b) = 1 ∧ a * fr_d a b = fr_n a b * b ∧ ∃ d : Int, 0 < d ∧ (d = (Int.gcd a b : Int)) ∧ a = b.sign * (d * fr_n a b) ∧ b = b.sign * (d * fr_d a b) := by
  have hd := fr_gcd_pos (a := a) hb
  generalize hG : Int.gcd a b = G at hd
  have e1 : (G : Int) * (a / (G : Int)) = a := Int.mul_ediv_cancel' (by rw [← hG]; exact Int.gcd_dvd_left ..)
  have e2 : (G : Int) * (b / (G : Int)) = b := Int.mul_ediv_cancel' (by rw [← hG]; exact Int.gcd_dvd_right ..)
  have hg1 : Int.gcd (a / (G : Int)) (b / (G : Int)) = 1 := by
    rw [← hG]
    exact Int.gcd_ediv_gcd_ediv_gcd (by rw [hG]; exact hd)
  unfold fr_n fr_d
  rw [hG]
  generalize a / (G : Int) = x at *
  generalize b / (G : Int) = y at *
  have hG0 : (0 : Int) < G := by omega
  have hs : b.sign = 1 ∨ b.sign = -1 := by
    rcases Int.lt_trichotomy b 0 with h | h | h
    · exact Or.inr (Int.sign_eq_neg_one_of_neg h)
    · exact absurd h hb
    · exact Or.inl (Int.sign_eq_one_of_pos h)
  have hy : 0 < b.sign * y := by
    rcases Int.lt_trichotomy b 0 with h | h | h
    · rw [Int.sign_eq_neg_one_of_neg h]
      have : y < 0 := by
        rcases Int.lt_or_le y 0 with h1 | h1
        · exact h1
        · have := Int.mul_nonneg (Int.le_of_lt hG0) h1; omega
      omega
    · exact absurd h hb
    · rw [Int.sign_eq_one_of_pos h]
      have : 0 < y := by
        rcases Int.lt_or_le 0 y with h1 | h1
        · exact h1
        · have := Int.mul_nonneg (Int.le_of_lt hG0) (show 0 ≤ -y by omega)
          rw [Int.mul_neg] at this; omega
      omega
  refine ⟨hy, ?_, ?_, (G : Int), hG0, rfl, ?_, ?_⟩
  · rcases hs with h | h <;> rw [h] <;> simp [hg1]
  · rw [← e1, ← e2]
    rcases hs with h | h <;> rw [h] at * <;> grind
  · rcases hs with h | h <;> rw [h] <;> grind
  · rcases hs with h | h <;> rw [h] <;> grind
theorem fr_dvd {d n m : Int} (h : d ∣ n * m) (hc : Int.gcd d n = 1) : d ∣ m := by
  rw [← Int.natAbs_dvd_natAbs] at h ⊢
  rw [Int.natAbs_mul] at h
  exact Nat.Coprime.dvd_of_dvd_mul_left hc h
theorem fr_uniq {n d n' d' : Int} (h : 0 < d) (h' : 0 < d') (hg : Int.gcd n d = 1) (hg' : Int.gcd n' d' = 1) (e : n * d' = n' * d) : n = n' ∧ d = d' := by
  have h1 : d ∣ d' := by
    have : d ∣ n * d' := ⟨n', by rw [e, Int.mul_comm]⟩
    have hc : Int.gcd d n = 1 := by rw [Int.gcd_comm]; exact hg
    exact fr_dvd this hc
  have h2 : d' ∣ d := by
    have : d' ∣ n' * d := ⟨n, by rw [← e, Int.mul_comm]⟩
    have hc : Int.gcd d' n' = 1 := by rw [Int.gcd_comm]; exact hg'
    exact fr_dvd this hc
  have hd : d = d' := Int.le_antisymm (Int.le_of_dvd h' h1) (Int.le_of_dvd h h2)
  refine ⟨?_, hd⟩
  subst hd
  exact Int.eq_of_mul_eq_mul_right (by omega) e
/-- a fraction is told in one way -/
theorem fr_eq {a b a' b' : Int} (hb : b ≠ 0) (hb' : b' ≠ 0) (e : a * b' = a' * b) : fr_n a b = fr_n a' b' ∧ fr_d a b = fr_d a' b' := by
  obtain ⟨h1, h2, h3, -⟩ := fr_spec (a := a) hb
  obtain ⟨k1, k2, k3, -⟩ := fr_spec (a := a') hb'
  refine fr_uniq h1 k1 h2 k2 ?_
  generalize fr_n a b = N at *
  generalize fr_d a b = D at *
  generalize fr_n a' b' = N' at *
  generalize fr_d a' b' = D' at *
  have h4 : b * b' ≠ 0 := fun z => (Int.mul_eq_zero.mp z).elim hb hb'
  apply Int.eq_of_mul_eq_mul_left h4
  have e1 : b * b' * (N * D') = (N * b) * b' * D' := by grind
  have e2 : b * b' * (N' * D) = (N' * b') * b * D := by grind
  rw [e1, e2, ← h3, ← k3]
  have e3 : a * D * b' * D' = D * D' * (a * b') := by grind
  have e4 : a' * D' * b * D = D * D' * (a' * b) := by grind
  rw [e3, e4, e]
/-! Euclid -/
theorem eu_half {b r : Nat} (hr : 0 < r) (h : r ≤ b) : 2 * (b % r) < b + 1 ∧ b % r < r := by
  have h1 := Nat.mod_lt b hr
  have h2 : r * 1 + b % r ≤ b := by
    have := Nat.div_add_mod b r
    have hq : 1 ≤ b / r := (Nat.one_le_div_iff hr).mpr h
    have := Nat.mul_le_mul_left r hq
    omega
  omega
section
variable {K : jj_K} {w : wo_T}
theorem nn_l_nat {a : Nat} (h : a < 9223372036854775808) : nn_L (a : Int) := ⟨by omega, by omega⟩
theorem lo_end {P : Int64 → wo_T → Prop} {A B : Int} (hA : nn_L A) (hB : nn_L B) (hB0 : B ≠ 0) (a4 : Int32) (k : P (nn_l (if a4 = 0 then fr_n A B else fr_d A B)) w) :
    (0 ≤ nn_l B → (¬ nn_l (Int.gcd A B : Int) = 0 → (¬ a4 = 0 → (¬ nn_l (Int.gcd A B : Int) = 0) ∧ (P (nn_l B / nn_l (Int.gcd A B : Int)) w)) ∧ (a4 = 0 → (¬ nn_l (Int.gcd A B : Int) = 0) ∧ (P (nn_l A / nn_l (Int.gcd A B : Int)) w))) ∧ (nn_l (Int.gcd A B : Int) = 0 → P a4.toInt64 w)) ∧
    (¬ 0 ≤ nn_l B → ∀ x5 : Int64, x5 = -nn_l (Int.gcd A B : Int) → ((¬ x5 = 0 → (¬ a4 = 0 → (¬ x5 = 0) ∧ (P (nn_l B / x5) w)) ∧ (a4 = 0 → (¬ x5 = 0) ∧ (P (nn_l A / x5) w))) ∧ (x5 = 0 → P a4.toInt64 w))) := by
  have hd := fr_gcd_pos (a := A) hB0
  obtain ⟨s1, s2, s3, d, hd0, hde, e1, e2⟩ := fr_spec (a := A) hB0
  have hdle : Int.gcd A B ≤ B.natAbs := Nat.le_of_dvd (by omega) (by
    have := Int.gcd_dvd_right (a := A) (b := B)
    exact Int.natAbs_dvd_natAbs.mpr this |> fun h => by simpa using h)
  have hBn := hB
  have hgL : nn_L (Int.gcd A B : Int) := ⟨by omega, by have := hB.1; have := hB.2; omega⟩
  have hgL' : nn_L (-(Int.gcd A B : Int)) := ⟨by have := hB.1; have := hB.2; omega, by omega⟩
  have hle : 0 ≤ nn_l B ↔ 0 ≤ B := nn_l_le (a := 0) (by constructor <;> decide) hB
  rw [hde] at e1 e2
  refine ⟨fun h => ?_, fun h x5 ex => ?_⟩
  · rw [hle] at h
    have hs : B.sign = 1 := Int.sign_eq_one_of_pos (by omega)
    rw [hs, Int.one_mul] at e1 e2
    rw [nn_l_eq0 hgL]
    refine ⟨fun _ => ⟨fun h4 => ⟨by omega, ?_⟩, fun h4 => ⟨by omega, ?_⟩⟩, fun q => absurd q (by omega)⟩
    · rw [nn_l_exact (c := fr_d A B) (by rw [← e2]; exact hB) hgL (by omega) e2]
      rw [if_neg h4] at k; exact k
    · rw [nn_l_exact (c := fr_n A B) (by rw [← e1]; exact hA) hgL (by omega) e1]
      rw [if_pos h4] at k; exact k
  · rw [hle] at h
    have hs : B.sign = -1 := Int.sign_eq_neg_one_of_neg (by omega)
    rw [hs] at e1 e2
    rw [nn_l_neg] at ex
    subst ex
    rw [nn_l_eq0 hgL']
    have f1 : A = -(Int.gcd A B : Int) * fr_n A B := by
      have : -(Int.gcd A B : Int) * fr_n A B = -1 * ((Int.gcd A B : Int) * fr_n A B) := by grind
      rw [this]; exact e1
    have f2 : B = -(Int.gcd A B : Int) * fr_d A B := by
      have : -(Int.gcd A B : Int) * fr_d A B = -1 * ((Int.gcd A B : Int) * fr_d A B) := by grind
      rw [this]; exact e2
    refine ⟨fun _ => ⟨fun h4 => ⟨by omega, ?_⟩, fun h4 => ⟨by omega, ?_⟩⟩, fun q => absurd q (by omega)⟩
    · rw [nn_l_exact (c := fr_d A B) (by rw [← f2]; exact hB) hgL' (by omega) f2]
      rw [if_neg h4] at k; exact k
    · rw [nn_l_exact (c := fr_n A B) (by rw [← f1]; exact hA) hgL' (by omega) f1]
      rw [if_pos h4] at k; exact k
theorem c_lowest {P : Int64 → wo_T → Prop} {A B : Int} (hA : nn_L A) (hB : nn_L B) (hB0 : B ≠ 0) (a4 : Int32) (k : P (nn_l (if a4 = 0 then fr_n A B else fr_d A B)) w) : jj_Cl K mX6_lowest [.long (nn_l A), .long (nn_l B), .int a4] w P := by
  have fin := lo_end (P := P) (w := w) hA hB hB0 a4 k
  have loop : ∀ n x y i, y < 2 ^ n → i + 2 * n ≤ 126 → x < 9223372036854775808 → y < 9223372036854775808 → Nat.gcd x y = Int.gcd A B → jj_J K mX6_lowest (jj_Rl P) 15 [(0, .long (nn_l A)), (2, .long (nn_l B)), (4, .int a4), (5, .long (nn_l (x : Int))), (7, .long (nn_l (y : Int))), (9, .int (nI i))] [] w := by
    intro n
    induction n with
    | zero =>
      intro x y i hy hi hx hy2 hg
      have y0 : y = 0 := by simpa using hy
      subst y0
      rw [Nat.gcd_zero_right] at hg
      subst hg
      apply vc_X6_lowest_15
      exact ⟨fun _ => fin, fun _ => ⟨fun _ => fin, fun q => absurd rfl q⟩⟩
    | succ n ih =>
      intro x y i hy hi hx hy2 hg
      apply vc_X6_lowest_15
      refine ⟨fun q => absurd q (nI_ge (b := 128) (by omega) (by decide)), fun _ => ?_⟩
      rw [nn_l_eq0 (nn_l_nat hy2), nn_ad1]
      refine ⟨fun y0 => ?_, fun y0 => ⟨y0, fun x15 e15 => ?_⟩⟩
      · have : y = 0 := by omega
        subst this
        rw [Nat.gcd_zero_right] at hg
        rw [hg]; exact fin
      · have hypos : 0 < y := by omega
        rw [nn_l_rem (nn_l_nat hx) (nn_l_nat hy2)] at e15
        have emod : ((x : Int).tmod (y : Int)) = ((x % y : Nat) : Int) := by
          rw [Int.tmod_eq_emod_of_nonneg (by omega)]; simp
        rw [emod] at e15
        subst e15
        have hr : x % y < y := Nat.mod_lt x hypos
        have hg2 : Nat.gcd y (x % y) = Int.gcd A B := by
          rw [← hg, Nat.gcd_comm x y, Nat.gcd_rec y x, Nat.gcd_comm]
        -- one step more
        apply vc_X6_lowest_15
        refine ⟨fun q => absurd q (nI_ge (b := 128) (by omega) (by decide)), fun _ => ?_⟩
        rw [nn_l_eq0 (nn_l_nat (by omega)), nn_ad1]
        refine ⟨fun r0 => ?_, fun r0 => ⟨r0, fun x16 e16 => ?_⟩⟩
        · have hr0 : x % y = 0 := by omega
          rw [hr0, Nat.gcd_zero_right] at hg2
          rw [hg2]; exact fin
        · rw [nn_l_rem (nn_l_nat hy2) (nn_l_nat (by omega))] at e16
          have emod2 : ((y : Int).tmod ((x % y : Nat) : Int)) = ((y % (x % y) : Nat) : Int) := by
            rw [Int.tmod_eq_emod_of_nonneg (by omega)]; simp
          rw [emod2] at e16
          subst e16
          have hrp : 0 < x % y := by omega
          have hh := eu_half hrp (Nat.le_of_lt hr)
          refine ih (x % y) (y % (x % y)) (i + 1 + 1) ?_ (by omega) (by omega) (by omega) ?_
          · rw [Nat.pow_succ] at hy; omega
          · rw [← hg2, Nat.gcd_comm y (x % y), Nat.gcd_rec (x % y) y, Nat.gcd_comm]
  apply en_X6_lowest
  intro x1 e1 x2 e2
  rw [nn_l_abs hA] at e1
  rw [nn_l_abs hB] at e2
  subst e1; subst e2
  have hA1 := hA.1
  have hA2 := hA.2
  have hB1 := hB.1
  have hB2 := hB.2
  exact loop 63 A.natAbs B.natAbs 0 (by omega) (by decide) (by omega) (by omega) rfl
end

/-! ===== the model: its ground ===== -/
def gm_g (w : wo_T) : gd_T := ((w.1 58 5).toInt.toNat, fun p => (w.1 59 p).toInt, fun p => (w.1 60 p).toInt, fun p => (w.1 61 p).toInt.toNat, fun v => (w.1 62 v).toInt)
def gm_ok (w : wo_T) : Prop := gd_ok (gm_g w) ∧ w.1 58 5 = nI (gm_g w).1 ∧ ∀ p, p < 5 → w.1 61 p = nI ((gm_g w).2.2.2.1 p) ∧ (gm_g w).2.2.2.1 p < 4
/-- the ground of the model stays -/
def gm_s (w u : wo_T) : Prop := u.1 58 5 = w.1 58 5 ∧ u.1 59 = w.1 59 ∧ u.1 60 = w.1 60 ∧ u.1 61 = w.1 61 ∧ u.1 62 = w.1 62
theorem gm_g_eq {w u : wo_T} (h : gm_s w u) : gm_g u = gm_g w := by
  unfold gm_g
  rw [h.1, h.2.1, h.2.2.1, h.2.2.2.1, h.2.2.2.2]
theorem gm_ok_eq {w u : wo_T} (h : gm_s w u) (hw : gm_ok w) : gm_ok u := by
  unfold gm_ok
  rw [gm_g_eq h, h.1, h.2.2.2.1]
  exact hw
theorem gm_n {w : wo_T} (h : gm_ok w) : (gm_g w).1 ≤ 5 := h.1.1
theorem gm_m {w : wo_T} (h : gm_ok w) : gd_m (gm_g w) ≤ 10 := gd_m_le h.1
theorem nn_pred {n : Nat} : nI n - 1 = nn_i ((n : Int) - 1) := by
  rw [nn_nI]
  exact nn_i_sub n 1
theorem nn_i_lta {z : Int} (h : nn_I z) (a : Int32) : nn_i z < a ↔ z < a.toInt := by rw [Int32.lt_iff_toInt_lt, nn_i_int h]
theorem nn_i_alt {z : Int} (h : nn_I z) (a : Int32) : a < nn_i z ↔ a.toInt < z := by rw [Int32.lt_iff_toInt_lt, nn_i_int h]
theorem nn_nI_int {n : Nat} (h : n < 2147483648) : (nI n).toInt = n := by rw [nn_nI, nn_i_int ⟨by omega, by omega⟩]
section
variable {K : jj_K} {w : wo_T}
theorem m_in {P : Int32 → wo_T → Prop} (a b c : Int32) (k1 : ¬ a < b → ¬ c < a → P 1 w) (k0 : a < b ∨ c < a → P 0 w) : jj_Ci K mX7_in [.int a, .int b, .int c] w P := by
  apply en_X7_in
  exact ⟨fun h => k0 (Or.inl h), fun h => ⟨fun h2 => k0 (Or.inr h2), fun h2 => k1 h h2⟩⟩
theorem m_pairs {P : Int32 → wo_T → Prop} (h : gm_ok w) (k : P (nI (gd_m (gm_g w))) w) : jj_Ci K mX7_pairs [.ref 58] w P := by
  apply en_X7_pairs
  have hn := gm_n h
  rw [h.2.1]
  have e : nI (gm_g w).1 * (nI (gm_g w).1 - 1) / 2 = nI (gd_m (gm_g w)) := by
    unfold gd_m
    generalize (gm_g w).1 = n at hn
    have : ∀ n : Nat, n ≤ 5 → nI n * (nI n - 1) / 2 = nI (n * (n - 1) / 2) := by decide +kernel
    exact this n hn
  rw [e]
  exact k
theorem m_below {P : Int32 → wo_T → Prop} {n : Nat} (hn : n < 1000) (a : Int32) (k1 : ∀ j : Nat, j < n → a = nI j → P 1 w) (k0 : (∀ j : Nat, j < n → ¬ a = nI j) → P 0 w) : jj_Ci K mX7_in [.int a, .int 0, .int (nI n - 1)] w P := by
  rw [nn_pred]
  refine m_in _ _ _ (fun h1 h2 => ?_) (fun h => k0 (fun j hj e => ?_))
  · rcases pk_ix a (n := n) (by omega) with q | q | ⟨j, hj, e⟩
    · exact absurd q h1
    · exfalso
      apply h2
      rw [nn_i_lta ⟨by omega, by omega⟩]
      have := Int32.le_iff_toInt_le.mp q
      rw [nn_nI_int (by omega)] at this
      omega
    · exact k1 j hj e
  · rw [e] at h
    rcases h with h | h
    · exact nI_pos (by omega) h
    · rw [nn_i_lta ⟨by omega, by omega⟩, nn_nI_int (by omega)] at h
      omega
theorem m_isPair {P : Int32 → wo_T → Prop} (h : gm_ok w) (a : Int32) (k1 : ∀ j : Nat, j < gd_m (gm_g w) → a = nI j → P 1 w) (k0 : (∀ j : Nat, j < gd_m (gm_g w) → ¬ a = nI j) → P 0 w) : jj_Ci K mX7_isPair [.ref 58, .int a] w P := by
  apply en_X7_isPair
  have hm := gm_m h
  exact m_pairs h (m_below (by omega) a (fun j hj e => ⟨Or.inr rfl, k1 j hj e⟩) (fun q => ⟨Or.inl rfl, k0 q⟩))
theorem m_isPoint {P : Int32 → wo_T → Prop} (h : gm_ok w) (a : Int32) (k1 : ∀ j : Nat, j < (gm_g w).1 → a = nI j → P 1 w) (k0 : (∀ j : Nat, j < (gm_g w).1 → ¬ a = nI j) → P 0 w) : jj_Ci K mX7_isPoint [.ref 58, .int a] w P := by
  apply en_X7_isPoint
  have hn := gm_n h
  rw [h.2.1]
  exact m_below (by omega) a (fun j hj e => ⟨Or.inr rfl, k1 j hj e⟩) (fun q => ⟨Or.inl rfl, k0 q⟩)
theorem m_greater {P : Int32 → wo_T → Prop} {j : Nat} (hj : j < 10) (k : P (nI (gd_gre j)) w) : jj_Ci K mX7_greater [.int (nI j)] w P := by
  apply en_X7_greater
  have key : ∀ k, k < 10 → ∀ j, j < 5 → 1 ≤ j → (nI k < ((nI j + 1) * nI j) / 2 ↔ gd_gre k ≤ j) := by decide +kernel
  have h4 := gd_les_gre j hj
  have loop : ∀ d i, i + d = gd_gre j → 1 ≤ i → jj_J K mX7_greater (jj_Ri P) 2 [(0, .int (nI j)), (1, .int (nI i))] [] w := by
    intro d
    induction d with
    | zero =>
      intro i hi h1
      apply vc_X7_greater_2
      rw [key j hj i (by omega) h1]
      refine ⟨fun _ => ?_, fun q => absurd (by omega) q⟩
      have : i = gd_gre j := by omega
      rw [this]; exact k
    | succ d ih =>
      intro i hi h1
      apply vc_X7_greater_2
      rw [key j hj i (by omega) h1]
      refine ⟨fun q => absurd q (by omega), fun _ => ?_⟩
      rw [nn_ad1]
      exact ih (i + 1) (by omega) (by omega)
  exact loop (gd_gre j - 1) 1 (by omega) (Nat.le_refl _)
theorem m_lesser {P : Int32 → wo_T → Prop} {j : Nat} (hj : j < 10) (k : P (nI (gd_les j)) w) : jj_Ci K mX7_lesser [.int (nI j)] w P := by
  apply en_X7_lesser
  refine m_greater hj ?_
  have key : ∀ k, k < 10 → nI k - ((nI (gd_gre k) * (nI (gd_gre k) - 1)) / 2) = nI (gd_les k) := by decide +kernel
  rw [key j hj]
  exact k
theorem m_far {P : Int32 → wo_T → Prop} {j ax : Nat} (hj : j < 10) (hax : ax < 2) (k : P (nn_i (gd_run (gm_g w) j ax)) w) : jj_Ci K mX7_far [.ref 58, .int (nI j), .int (nI ax)] w P := by
  apply en_X7_far
  have h4 := gd_les_gre j hj
  refine m_lesser hj (m_greater hj ?_)
  rw [nI_clamp (by omega), nI_clamp (by omega)]
  have e1 : ∀ p, w.1 59 p = nn_i ((gm_g w).2.1 p) := fun p => nn_i_of _
  have e2 : ∀ p, w.1 60 p = nn_i ((gm_g w).2.2.1 p) := fun p => nn_i_of _
  rw [e1, e1, e2, e2, nn_i_sub, nn_i_sub]
  rcases (show ax = 0 ∨ ax = 1 by omega) with rfl | rfl
  · exact ⟨fun q => absurd rfl q, fun _ => ⟨nn_inn (by omega) (by decide), nn_inn (by omega) (by decide), k⟩⟩
  · exact ⟨fun _ => ⟨nn_inn (by omega) (by decide), nn_inn (by omega) (by decide), k⟩, fun q => absurd q (by decide)⟩
theorem m_quad {P : Int32 → wo_T → Prop} {j : Nat} (hj : j < 10) (k : P (nn_i (gd_quad (gm_g w) j)) w) : jj_Ci K mX7_quad [.ref 58, .int (nI j)] w P := by
  apply en_X7_quad
  refine m_far (ax := 0) hj (by decide) (m_far (ax := 0) hj (by decide) (m_far (ax := 1) hj (by decide) (m_far (ax := 1) hj (by decide) ?_)))
  rw [nn_i_mul, nn_i_mul, nn_i_add]
  exact k
theorem m_isWay {P : Int32 → wo_T → Prop} (h : gm_ok w) (v : Nat) (hv : v < 10) (k : P (if gd_free (gm_g w) v then 1 else 0) w) : jj_Ci K mX7_isWay [.ref 58, .int (nI v)] w P := by
  apply en_X7_isWay
  have hn := gm_n h
  have h5 : v / 2 < 5 := by omega
  rw [nn_par (by omega), nn_half (by omega), nI_clamp (by omega), h.2.1]
  obtain ⟨e, h4⟩ := h.2.2 (v / 2) h5
  rw [e, nn_bit0 (by omega) (by omega)]
  unfold gd_free at k
  refine ⟨fun q => ?_, fun q => ⟨nn_inn h5 (by decide), fun hb => ?_, fun hb => ?_⟩⟩
  · have hge : ¬ v < 2 * (gm_g w).1 := fun hlt => nI_ge (show v / 2 < (gm_g w).1 by omega) (by omega) q
    simpa [hge] using k
  · have : ((gm_g w).2.2.2.1 (v / 2)).testBit (v % 2) = true := by
      cases hq : ((gm_g w).2.2.2.1 (v / 2)).testBit (v % 2) with
      | true => rfl
      | false => exact absurd hq hb
    simpa [this] using k
  · have hlt : v < 2 * (gm_g w).1 := by
      rcases Nat.lt_or_ge (v / 2) (gm_g w).1 with h1 | h1
      · omega
      · exact absurd (nI_le h1 (by omega)) q
    simpa [hb, hlt] using k
theorem m_brought {P : Int32 → wo_T → Prop} {j v : Nat} (hj : j < 10) (hv : v < 10) (k : P (nn_i (gd_br (gm_g w) j v)) w) : jj_Ci K mX7_brought [.ref 58, .int (nI j), .int (nI v)] w P := by
  apply en_X7_brought
  have h4 := gd_les_gre j hj
  intro x ex
  rw [nn_half (by omega)] at ex
  rw [nn_par (by omega)]
  subst ex
  unfold gd_br at k
  refine m_lesser hj ⟨fun hl => m_greater hj ⟨fun hg => ?_, fun hg => ?_⟩, fun hl => ?_⟩
  · rw [nI_eq (by omega) (by omega)] at hl hg
    rw [if_neg hl, if_neg hg] at k
    exact k
  · rw [nI_eq (by omega) (by omega)] at hl hg
    rw [if_neg hl, if_pos hg] at k
    refine m_far hj (by omega) ?_
    rw [nn_i_neg]
    exact k
  · rw [nI_eq (by omega) (by omega)] at hl
    rw [if_pos hl] at k
    exact m_far hj (by omega) k
theorem m_divisor {P : Int64 → wo_T → Prop} {A B : Int} (hA : nn_L A) (hB : nn_L B) (k : P (nn_l (Int.gcd A B : Int)) w) : jj_Cl K mX7_divisor [.long (nn_l A), .long (nn_l B)] w P := by
  have loop : ∀ y x : Nat, x < 9223372036854775808 → y < 9223372036854775808 → Nat.gcd x y = Int.gcd A B → jj_J K mX7_divisor (jj_Rl P) 28 [(0, .long (nn_l A)), (2, .long (nn_l B)), (4, .long (nn_l (x : Int))), (6, .long (nn_l (y : Int)))] [] w := by
    intro y
    induction y using Nat.strongRecOn with
    | ind y ih =>
      intro x hx hy hg
      apply vc_X7_divisor_28
      rw [nn_l_eq0 (nn_l_nat hy)]
      refine ⟨fun h0 => ?_, fun h0 => ⟨h0, fun x2 e2 => ?_⟩⟩
      · have : y = 0 := by omega
        subst this
        rw [Nat.gcd_zero_right] at hg
        rw [hg]; exact k
      · have hy0 : 0 < y := by omega
        rw [nn_l_rem (nn_l_nat hx) (nn_l_nat hy)] at e2
        have e3 : (x : Int).tmod (y : Int) = ((x % y : Nat) : Int) := by simp [Int.tmod]
        rw [e3] at e2
        subst e2
        have hlt := Nat.mod_lt x hy0
        refine ih (x % y) hlt y hy (by omega) ?_
        rw [← hg, Nat.gcd_comm x y, Nat.gcd_rec y x, Nat.gcd_comm]
  have h1 := hA.1
  have h2 := hA.2
  have h3 := hB.1
  have h4 := hB.2
  have fin := loop B.natAbs A.natAbs (by omega) (by omega) rfl
  have z0 : nn_L 0 := by constructor <;> decide
  have leA : 0 ≤ nn_l A ↔ 0 ≤ A := nn_l_le z0 hA
  have leB : 0 ≤ nn_l B ↔ 0 ≤ B := nn_l_le z0 hB
  apply en_X7_divisor
  rw [leA, leB]
  have pA : 0 ≤ A → ((A.natAbs : Int)) = A := fun h => by omega
  have nA : ¬ 0 ≤ A → ((A.natAbs : Int)) = -A := fun h => by omega
  have pB : 0 ≤ B → ((B.natAbs : Int)) = B := fun h => by omega
  have nB : ¬ 0 ≤ B → ((B.natAbs : Int)) = -B := fun h => by omega
  refine ⟨fun a => ⟨fun b => ?_, fun b x3 e3 => ?_⟩, fun a x4 e4 => ⟨fun b => ?_, fun b x6 e6 => ?_⟩⟩
  · rw [pA a, pB b] at fin; exact fin
  · rw [pA a, nB b] at fin
    rw [nn_l_neg] at e3; subst e3
    exact fin
  · rw [nA a, pB b] at fin
    rw [nn_l_neg] at e4; subst e4
    exact fin
  · rw [nA a, nB b] at fin
    rw [nn_l_neg] at e4 e6; subst e4; subst e6
    exact fin
theorem m_partOf {P : Int64 → wo_T → Prop} {A B : Int} (hA : nn_L A) (hB : nn_L B) (hB0 : B ≠ 0) (a4 : Int32) (k : P (nn_l (if a4 = 0 then fr_n A B else fr_d A B)) w) : jj_Cl K mX7_partOf [.long (nn_l A), .long (nn_l B), .int a4] w P := by
  have fin := lo_end (P := P) (w := w) hA hB hB0 a4 k
  have hd := fr_gcd_pos (a := A) hB0
  have hdle : Int.gcd A B ≤ B.natAbs := Nat.le_of_dvd (by omega) (by
    have := Int.gcd_dvd_right (a := A) (b := B)
    exact Int.natAbs_dvd_natAbs.mpr this |> fun h => by simpa using h)
  have h1 := hB.1
  have h2 := hB.2
  have hgL : nn_L (Int.gcd A B : Int) := ⟨by omega, by omega⟩
  have hgL' : nn_L (-(Int.gcd A B : Int)) := ⟨by omega, by omega⟩
  have n1 : ¬ nn_l (Int.gcd A B : Int) = 0 := by rw [nn_l_eq0 hgL]; omega
  have n2 : ∀ x5 : Int64, x5 = -nn_l (Int.gcd A B : Int) → ¬ x5 = 0 := fun x5 e => by
    rw [e, nn_l_neg, nn_l_eq0 hgL']; omega
  apply en_X7_partOf
  exact m_divisor hA hB ⟨fun h0 => (fin.1 h0).1 n1, fun h0 x5 e => (fin.2 h0 x5 e).1 (n2 x5 e)⟩
end
def gd_pop (s : Nat) : Nat → Nat
  | 0 => 0
  | n + 1 => gd_pop s n + (if s.testBit n then 1 else 0)
theorem gd_pop_le (s : Nat) : ∀ n, gd_pop s n ≤ n
  | 0 => Nat.le_refl _
  | n + 1 => by
    have := gd_pop_le s n
    simp only [gd_pop]
    split <;> omega
theorem m_size {K : jj_K} {w : wo_T} {P : Int32 → wo_T → Prop} {s : Nat} (hs : s < 1024) (k : P (nI (gd_pop s 10)) w) : jj_Ci K mX7_size [.int (nI s)] w P := by
  apply en_X7_size
  have loop : ∀ d i, i + d = 10 → jj_J K mX7_size (jj_Ri P) 4 [(0, .int (nI s)), (1, .int (nI (gd_pop s i))), (2, .int (nI i))] [] w := by
    intro d
    induction d with
    | zero =>
      intro i hi
      apply vc_X7_size_4
      have e : i = 10 := by omega
      subst e
      exact ⟨fun _ => k, fun q => absurd (by decide) q⟩
    | succ d ih =>
      intro i hi
      apply vc_X7_size_4
      refine ⟨fun q => absurd q (nI_ge (b := 10) (by omega) (by decide)), fun _ x ex => ?_⟩
      rw [nn_bit (by omega) (by omega)] at ex
      rw [nn_ad1]
      have e : x = nI (gd_pop s (i + 1)) := by
        rw [ex]
        simp only [gd_pop]
        split
        · exact nn_ad1 _
        · simp
      rw [e]
      exact ih (i + 1) (by omega)
  exact loop 10 0 rfl

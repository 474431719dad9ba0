/-! ===== the same answers: point ===== -/
def up (f : Nat → Int32) (i : Nat) (v : Int32) : Nat → Int32 := fun j => if j = i then v else f j
theorem up_eq {f : Nat → Int32} {i : Nat} {v : Int32} : up f i v i = v := if_pos rfl
theorem up_ne {f : Nat → Int32} {i j : Nat} {v : Int32} (h : j ≠ i) : up f i v j = f j := if_neg h
theorem wo_i_up {w : wo_T} {a i : Nat} {v : Int32} : (wo_i w a i v).1 a = up (w.1 a) i v := by
  funext j
  by_cases e : j = i
  · rw [e, wo_i_eq, up_eq]
  · rw [wo_i_nk (by omega), up_ne e]
theorem nn_ad2 (a : Nat) : nI a + 2 = nI (a + 2) := nI_add a 2
theorem gd_pts : ∀ n, n ≤ 5 → ∀ k, k < n * (n - 1) / 2 → gd_gre k < n ∧ gd_les k < n := by decide
theorem gd_m1 : ∀ n, n ≤ 5 → ∀ k, k < n * (n - 1) / 2 → k < 10 := by decide
def c_ms (u : wo_T) (k : Nat) : Prop := u.1 6 (2 * k) = u.1 2 (2 * gd_gre k) - u.1 2 (2 * gd_les k) ∧ u.1 6 (2 * k + 1) = u.1 2 (2 * gd_gre k + 1) - u.1 2 (2 * gd_les k + 1) ∧ u.1 7 k = u.1 6 (2 * k) * u.1 6 (2 * k) + u.1 6 (2 * k + 1) * u.1 6 (2 * k + 1)
def c_A (w : wo_T) (n : Nat) (x y : Int32) (u : wo_T) : Prop := (∀ b, b = 0 ∨ 7 < b → u.1 b = w.1 b) ∧ u.2 = w.2 ∧ u.1 1 6 = nI (n + 1) ∧ u.1 2 = up (up (w.1 2) (2 * n) x) (2 * n + 1) y ∧ u.1 3 = up (w.1 3) n 0 ∧ u.1 4 = up (up (w.1 4) (2 * n) 0) (2 * n + 1) 0 ∧ u.1 5 = up (up (w.1 5) (2 * n) 0) (2 * n + 1) 0 ∧ (∀ k, k < n * (n - 1) / 2 → u.1 6 (2 * k) = w.1 6 (2 * k) ∧ u.1 6 (2 * k + 1) = w.1 6 (2 * k + 1) ∧ u.1 7 k = w.1 7 k) ∧ ∀ k, n * (n - 1) / 2 ≤ k → k < (n + 1) * n / 2 → c_ms u k
def m_A (w : wo_T) (n : Nat) (x y : Int32) (u : wo_T) : Prop := (∀ b, b < 58 ∨ 63 < b → u.1 b = w.1 b) ∧ u.2 = w.2 ∧ u.1 58 5 = nI (n + 1) ∧ u.1 58 13 = 0 ∧ (∀ j, j ≠ 5 → j ≠ 13 → u.1 58 j = w.1 58 j) ∧ u.1 59 = up (w.1 59) n x ∧ u.1 60 = up (w.1 60) n y ∧ u.1 61 = up (w.1 61) n 0 ∧ u.1 62 = up (up (w.1 62) (2 * n) 0) (2 * n + 1) 0 ∧ u.1 63 = up (up (w.1 63) (2 * n) 0) (2 * n + 1) 0
section
variable {K : jj_K} {w : wo_T}
theorem c_measure {P : wo_T → Prop} {k : Nat} (hk : k < 10) (kk : ∀ u, (∀ b, b ≠ 6 → b ≠ 7 → u.1 b = w.1 b) → u.2 = w.2 → (∀ j, j ≠ 2 * k → j ≠ 2 * k + 1 → u.1 6 j = w.1 6 j) → (∀ j, j ≠ k → u.1 7 j = w.1 7 j) → c_ms u k → P u) : jj_Cv K mX3_measure [.ref 1, .int (nI k)] w P := by
  have hl : gd_les k < 5 ∧ gd_gre k < 5 := by
    have := gd_les_gre k hk
    omega
  apply en_X3_measure
  rw [nn_two, nn_ad1, nI_clamp (n := k) (by omega), nI_clamp (n := 2 * k) (by omega), nI_clamp (n := 2 * k + 1) (by omega), wo_les_n k hk, wo_gre_n k hk, nn_two, nn_two, nn_ad1, nn_ad1, nI_clamp (n := 2 * gd_gre k) (by omega), nI_clamp (n := 2 * gd_gre k + 1) (by omega), nI_clamp (n := 2 * gd_les k) (by omega), nI_clamp (n := 2 * gd_les k + 1) (by omega)]
  refine ⟨nn_inn (by omega) (by decide), nn_inn (by omega) (by decide), nn_inn (by omega) (by decide), nn_inn (by omega) (by decide), fun x ex => ⟨nn_inn (by omega) (by decide), nn_inn (by omega) (by decide), nn_inn (by omega) (by decide), nn_inn (by omega) (by decide), fun y ey => ⟨nn_inn (by omega) (by decide), nn_inn (by omega) (by decide), nn_inn (by omega) (by decide), ?_⟩⟩⟩
  generalize hu : wo_i (wo_i (wo_i w 6 (2 * k) x) 6 (2 * k + 1) y) 7 k (x * x + y * y) = u
  have e6 : u.1 6 (2 * k) = x := by rw [← hu, wo_i_ne 6 (by decide), wo_i_nk (by omega), wo_i_eq]
  have e6' : u.1 6 (2 * k + 1) = y := by rw [← hu, wo_i_ne 6 (by decide), wo_i_eq]
  have e2 : u.1 2 = w.1 2 := by rw [← hu, wo_i_ne 2 (by decide), wo_i_ne 2 (by decide), wo_i_ne 2 (by decide)]
  refine kk u (fun b p q => by rw [← hu, wo_i_ne b q, wo_i_ne b p, wo_i_ne b p]) (by rw [← hu]; rfl) (fun j p q => by rw [← hu, wo_i_ne 6 (by decide), wo_i_nk (by omega), wo_i_nk (by omega)]) (fun j p => by rw [← hu, wo_i_nk (by omega), wo_i_ne 7 (by decide), wo_i_ne 7 (by decide)]) ⟨?_, ?_, ?_⟩
  · rw [e6, e2, ex]
  · rw [e6', e2, ey]
  · rw [e6, e6', ← hu, wo_i_eq]
theorem c_add {P : Int32 → wo_T → Prop} {n : Nat} (hn : n < 5) (h6 : w.1 1 6 = nI n) (x y : Int32) (k : ∀ u, c_A w n x y u → P (nI n) u) : jj_Ci K mX3_add [.ref 1, .int x, .int y] w P := by
  have pk : ∀ n : Nat, n ≤ 5 → nI n * (nI n - 1) / 2 = nI (n * (n - 1) / 2) := by decide +kernel
  have mm : ∀ n : Nat, n < 5 → n * (n - 1) / 2 ≤ (n + 1) * n / 2 ∧ (n + 1) * n / 2 ≤ 10 := by decide
  obtain ⟨mm1, mm2⟩ := mm n hn
  apply en_X3_add
  intro a ea
  rw [h6] at ea
  subst ea
  rw [nn_two, nn_ad1, nI_clamp (n := n) (by omega), nI_clamp (n := 2 * n) (by omega), nI_clamp (n := 2 * n + 1) (by omega)]
  refine ⟨nn_inn (by omega) (by decide), nn_inn (by omega) (by decide), nn_inn (by omega) (by decide), fun b eb => ?_⟩
  subst eb
  have g2 : 2 * nI n + 2 = nI (2 * n + 2) := by rw [nn_two, nn_ad2]
  apply vc_X3_add_37
  rw [g2, nI_clamp (n := 2 * n) (by omega), nn_ad1]
  refine ⟨fun q => absurd q (nI_ge (by omega) (by omega)), fun _ => ⟨nn_inn (by omega) (by decide), nn_inn (by omega) (by decide), ?_⟩⟩
  apply vc_X3_add_37
  rw [g2, nI_clamp (n := 2 * n + 1) (by omega), nn_ad1]
  refine ⟨fun q => absurd q (nI_ge (by omega) (by omega)), fun _ => ⟨nn_inn (by omega) (by decide), nn_inn (by omega) (by decide), ?_⟩⟩
  apply vc_X3_add_37
  rw [g2]
  refine ⟨fun _ => ?_, fun q => absurd (nI_le (by omega) (by omega)) q⟩
  generalize hu : wo_i (wo_i (wo_i (wo_i (wo_i (wo_i (wo_i w 2 (2 * n) x) 2 (2 * n + 1) y) 3 n 0) 4 (2 * n) 0) 5 (2 * n) 0) 4 (2 * n + 1) 0) 5 (2 * n + 1) 0 = u
  have f1 : ∀ b, b ≠ 2 → b ≠ 3 → b ≠ 4 → b ≠ 5 → u.1 b = w.1 b := fun b p q r s => by rw [← hu, wo_i_ne b s, wo_i_ne b r, wo_i_ne b s, wo_i_ne b r, wo_i_ne b q, wo_i_ne b p, wo_i_ne b p]
  have f2 : u.1 2 = up (up (w.1 2) (2 * n) x) (2 * n + 1) y := by rw [← hu, wo_i_ne 2 (by decide), wo_i_ne 2 (by decide), wo_i_ne 2 (by decide), wo_i_ne 2 (by decide), wo_i_ne 2 (by decide), wo_i_up, wo_i_up]
  have f3 : u.1 3 = up (w.1 3) n 0 := by rw [← hu, wo_i_ne 3 (by decide), wo_i_ne 3 (by decide), wo_i_ne 3 (by decide), wo_i_ne 3 (by decide), wo_i_up, wo_i_ne 3 (by decide), wo_i_ne 3 (by decide)]
  have f4 : u.1 4 = up (up (w.1 4) (2 * n) 0) (2 * n + 1) 0 := by rw [← hu, wo_i_ne 4 (by decide), wo_i_up, wo_i_ne 4 (by decide), wo_i_up, wo_i_ne 4 (by decide), wo_i_ne 4 (by decide), wo_i_ne 4 (by decide)]
  have f5 : u.1 5 = up (up (w.1 5) (2 * n) 0) (2 * n + 1) 0 := by rw [← hu, wo_i_up, wo_i_ne 5 (by decide), wo_i_up, wo_i_ne 5 (by decide), wo_i_ne 5 (by decide), wo_i_ne 5 (by decide), wo_i_ne 5 (by decide)]
  have fl : u.2 = w.2 := by rw [← hu]; rfl
  apply en_X3_pairs
  rw [f1 1 (by decide) (by decide) (by decide) (by decide), h6, pk n (by omega), nn_ad1]
  generalize hm0 : n * (n - 1) / 2 = m0 at *
  generalize hv : wo_i u 1 6 (nI (n + 1)) = v
  have v1 : ∀ b, b ≠ 1 → v.1 b = u.1 b := fun b p => by rw [← hv, wo_i_ne b p]
  have v16 : v.1 1 6 = nI (n + 1) := by rw [← hv, wo_i_eq]
  have v2 : v.2 = u.2 := by rw [← hv]; rfl
  have em : (n + 1) * (n + 1 - 1) / 2 = (n + 1) * n / 2 := by rw [Nat.add_sub_cancel]
  generalize hm1 : (n + 1) * n / 2 = m1 at *
  have loop : ∀ d i z, i + d = m1 → m0 ≤ i → (∀ b, b ≠ 6 → b ≠ 7 → z.1 b = v.1 b) → z.2 = v.2 → (∀ j, j < m0 → z.1 6 (2 * j) = v.1 6 (2 * j) ∧ z.1 6 (2 * j + 1) = v.1 6 (2 * j + 1) ∧ z.1 7 j = v.1 7 j) → (∀ j, m0 ≤ j → j < i → c_ms z j) → jj_J K mX3_add (jj_Ri P) 89 [(0, .ref 1), (1, .int x), (2, .int y), (3, .int (nI n)), (4, .int (nI m0)), (5, .int (nI i))] [] z := by
    intro d
    induction d with
    | zero =>
      intro i z hi h0 z1 z2 z3 z4
      apply vc_X3_add_89
      apply en_X3_pairs
      rw [z1 1 (by decide) (by decide), v16, pk (n + 1) (by omega), em]
      refine ⟨fun _ => k z ⟨fun b hb => ?_, ?_, ?_, ?_, ?_, ?_, ?_, fun j hj => ?_, fun j hj hj2 => z4 j (by omega) (by omega)⟩, fun q => absurd (nI_le (by omega) (by omega)) q⟩
      · rw [z1 b (by omega) (by omega), v1 b (by omega), f1 b (by omega) (by omega) (by omega) (by omega)]
      · rw [z2, v2, fl]
      · rw [z1 1 (by decide) (by decide), v16]
      · rw [z1 2 (by decide) (by decide), v1 2 (by decide), f2]
      · rw [z1 3 (by decide) (by decide), v1 3 (by decide), f3]
      · rw [z1 4 (by decide) (by decide), v1 4 (by decide), f4]
      · rw [z1 5 (by decide) (by decide), v1 5 (by decide), f5]
      · obtain ⟨a, b, c⟩ := z3 j (by omega)
        rw [a, b, c, v1 6 (by decide), v1 7 (by decide), f1 6 (by decide) (by decide) (by decide) (by decide), f1 7 (by decide) (by decide) (by decide) (by decide)]
        exact ⟨rfl, rfl, rfl⟩
    | succ d ih =>
      intro i z hi h0 z1 z2 z3 z4
      apply vc_X3_add_89
      apply en_X3_pairs
      rw [z1 1 (by decide) (by decide), v16, pk (n + 1) (by omega), em]
      refine ⟨fun q => absurd q (nI_ge (by omega) (by omega)), fun _ => c_measure (by omega) (fun t t1 t2 t6 t7 tm => ?_)⟩
      rw [nn_ad1]
      refine ih (i + 1) t (by omega) (by omega) (fun b p q => (t1 b p q).trans (z1 b p q)) (t2.trans z2) (fun j hj => ?_) (fun j hj hj2 => ?_)
      · obtain ⟨a, b, c⟩ := z3 j hj
        rw [t6 _ (by omega) (by omega), t6 _ (by omega) (by omega), t7 _ (by omega)]
        exact ⟨a, b, c⟩
      · by_cases e : j = i
        · rw [e]; exact tm
        · obtain ⟨a, b, c⟩ := z4 j hj (by omega)
          unfold c_ms
          rw [t6 _ (by omega) (by omega), t6 _ (by omega) (by omega), t7 _ (by omega), t1 2 (by decide) (by decide)]
          exact ⟨a, b, c⟩
  exact loop (m1 - m0) m0 v (by omega) (by omega) (fun _ _ _ => rfl) rfl (fun _ _ => ⟨rfl, rfl, rfl⟩) (fun j p q => by omega)
def tkn (w : wo_T) (n : Nat) (x y : Int32) : Prop := ∃ p, p < n ∧ w.1 59 p = x ∧ w.1 60 p = y
theorem c_isTaken {P : Int32 → wo_T → Prop} {n : Nat} (hn : n ≤ 5) (h6 : w.1 1 6 = nI n) (h2 : ∀ p, w.1 2 (2 * p) = w.1 59 p) (h3 : ∀ p, w.1 2 (2 * p + 1) = w.1 60 p) (x y : Int32) (k1 : tkn w n x y → P 1 w) (k0 : ¬ tkn w n x y → P 0 w) : jj_Ci K mX3_isTaken [.ref 1, .int x, .int y] w P := by
  apply en_X3_isTaken
  have loop : ∀ d i, i + d = n → (∀ p, p < i → ¬ (w.1 59 p = x ∧ w.1 60 p = y)) → jj_J K mX3_isTaken (jj_Ri P) 2 [(0, .ref 1), (1, .int x), (2, .int y), (3, .int (nI i))] [] w := by
    intro d
    induction d with
    | zero =>
      intro i hi hno
      apply vc_X3_isTaken_2
      rw [h6]
      refine ⟨fun _ => k0 (fun ⟨p, hp, e⟩ => hno p (by omega) e), fun q => absurd (nI_le (by omega) (by omega)) q⟩
    | succ d ih =>
      intro i hi hno
      apply vc_X3_isTaken_2
      rw [h6, nn_two, nn_ad1, nn_ad1, nI_clamp (n := 2 * i) (by omega), nI_clamp (n := 2 * i + 1) (by omega), h2, h3]
      have nx : ¬ (w.1 59 i = x ∧ w.1 60 i = y) → jj_J K mX3_isTaken (jj_Ri P) 2 [(0, .ref 1), (1, .int x), (2, .int y), (3, .int (nI (i + 1)))] [] w := fun e => ih (i + 1) (by omega) (fun p hp => by
        by_cases e2 : p = i
        · rw [e2]; exact e
        · exact hno p (by omega))
      refine ⟨fun q => absurd q (nI_ge (by omega) (by omega)), fun _ => ⟨nn_inn (by omega) (by decide), fun q => nx (fun e => q e.1), fun q => ⟨nn_inn (by omega) (by decide), fun q2 => nx (fun e => q2 e.2), fun q2 => k1 ⟨i, by omega, q, q2⟩⟩⟩⟩
  exact loop n 0 (by omega) (fun p hp => by omega)
theorem m_pointW {P : Int32 → wo_T → Prop} {n : Nat} (hn : n ≤ 5) (h5 : w.1 58 5 = nI n) (x y : Int32) (k1 : tkn w n x y → P (-3) w) (k2 : ¬ tkn w n x y → n = 5 → P (-4) w) (k3 : ¬ tkn w n x y → n < 5 → ∀ u, m_A w n x y u → P (nI n) u) : jj_J K mX7_point (jj_Ri P) 23 [(0, .ref 58), (1, .int x), (2, .int y), (3, .int 0)] [] w := by
  have loop : ∀ d i, i + d = n → (∀ p, p < i → ¬ (w.1 59 p = x ∧ w.1 60 p = y)) → jj_J K mX7_point (jj_Ri P) 23 [(0, .ref 58), (1, .int x), (2, .int y), (3, .int (nI i))] [] w := by
    intro d
    induction d with
    | zero =>
      intro i hi hno
      have hnt : ¬ tkn w n x y := fun ⟨p, hp, e⟩ => hno p (by omega) e
      apply vc_X7_point_23
      have g59 : ∀ (u : wo_T) (i : Nat) (v : Int32), (wo_i u 59 i v).1 58 = u.1 58 := fun _ _ _ => wo_i_ne 58 (by decide)
      have g60 : ∀ (u : wo_T) (i : Nat) (v : Int32), (wo_i u 60 i v).1 58 = u.1 58 := fun _ _ _ => wo_i_ne 58 (by decide)
      have g61 : ∀ (u : wo_T) (i : Nat) (v : Int32), (wo_i u 61 i v).1 58 = u.1 58 := fun _ _ _ => wo_i_ne 58 (by decide)
      simp only [g59, g60, g61]
      rw [h5, nI_clamp (n := n) (by omega)]
      refine ⟨fun _ => ⟨fun q => ?_, fun q => k2 hnt ((nI_eq (b := 5) (by omega) (by omega)).mp q)⟩, fun q => absurd (nI_le (by omega) (by omega)) q⟩
      have hn5 : n < 5 := by
        rcases Nat.lt_or_ge n 5 with z | z
        · exact z
        · exact absurd (by rw [show n = 5 by omega]; rfl) q
      refine ⟨nn_inn (by omega) (by decide), nn_inn (by omega) (by decide), nn_inn (by omega) (by decide), fun z ez => ?_⟩
      rw [nn_two] at ez
      subst ez
      have g2 : 2 * nI n + 2 = nI (2 * n + 2) := by rw [nn_two, nn_ad2]
      have f58 : (wo_i (wo_i (wo_i w 59 n x) 60 n y) 61 n 0).1 58 = w.1 58 := by rw [g61, g60, g59]
      generalize hu : wo_i (wo_i (wo_i w 59 n x) 60 n y) 61 n 0 = u at *
      apply vc_X7_point_108
      rw [f58, h5, g2, nI_clamp (n := 2 * n) (by omega), nn_ad1, nn_ad1]
      refine ⟨fun q => absurd q (nI_ge (by omega) (by omega)), fun _ => ⟨nn_inn (by omega) (by decide), nn_inn (by omega) (by decide), ?_⟩⟩
      apply vc_X7_point_108
      have s1 : (wo_i (wo_i u 62 (2 * n) 0) 63 (2 * n) 0).1 58 5 = nI n := by rw [wo_i_ne 58 (by decide), wo_i_ne 58 (by decide), f58, h5]
      rw [s1, g2, nI_clamp (n := 2 * n + 1) (by omega)]
      simp only [nn_ad1]
      refine ⟨fun q => absurd q (nI_ge (by omega) (by omega)), fun _ => ⟨nn_inn (by omega) (by decide), nn_inn (by omega) (by decide), ?_⟩⟩
      apply vc_X7_point_108
      generalize hv : wo_i (wo_i (wo_i (wo_i u 62 (2 * n) 0) 63 (2 * n) 0) 62 (2 * n + 1) 0) 63 (2 * n + 1) 0 = v
      have s2 : v.1 58 = w.1 58 := by rw [← hv, wo_i_ne 58 (by decide), wo_i_ne 58 (by decide), wo_i_ne 58 (by decide), wo_i_ne 58 (by decide), f58]
      rw [s2, h5, g2, wo_i_nk (by decide), wo_i_eq]
      simp only [nn_ad1]
      refine ⟨fun _ => ?_, fun q => absurd (nI_le (by omega) (by omega)) q⟩
      rw [nn_dec (n + 1) (by omega) (by omega), Nat.add_sub_cancel]
      refine k3 hnt hn5 _ ⟨fun b hb => ?_, ?_, ?_, wo_i_eq, fun j p q => ?_, ?_, ?_, ?_, ?_, ?_⟩
      · rw [wo_i_ne b (by omega), wo_i_ne b (by omega), ← hv, wo_i_ne b (by omega), wo_i_ne b (by omega), wo_i_ne b (by omega), wo_i_ne b (by omega), ← hu, wo_i_ne b (by omega), wo_i_ne b (by omega), wo_i_ne b (by omega)]
      · rw [wo_i_2, wo_i_2, ← hv, wo_i_2, wo_i_2, wo_i_2, wo_i_2, ← hu]; rfl
      · rw [wo_i_nk (by decide), wo_i_eq]
      · rw [wo_i_nk (by omega), wo_i_nk (by omega), s2]
      · rw [wo_i_ne 59 (by decide), wo_i_ne 59 (by decide), ← hv, wo_i_ne 59 (by decide), wo_i_ne 59 (by decide), wo_i_ne 59 (by decide), wo_i_ne 59 (by decide), ← hu, wo_i_ne 59 (by decide), wo_i_ne 59 (by decide), wo_i_up]
      · rw [wo_i_ne 60 (by decide), wo_i_ne 60 (by decide), ← hv, wo_i_ne 60 (by decide), wo_i_ne 60 (by decide), wo_i_ne 60 (by decide), wo_i_ne 60 (by decide), ← hu, wo_i_ne 60 (by decide), wo_i_up, wo_i_ne 60 (by decide)]
      · rw [wo_i_ne 61 (by decide), wo_i_ne 61 (by decide), ← hv, wo_i_ne 61 (by decide), wo_i_ne 61 (by decide), wo_i_ne 61 (by decide), wo_i_ne 61 (by decide), ← hu, wo_i_up, wo_i_ne 61 (by decide), wo_i_ne 61 (by decide)]
      · rw [wo_i_ne 62 (by decide), wo_i_ne 62 (by decide), ← hv, wo_i_ne 62 (by decide), wo_i_up, wo_i_ne 62 (by decide), wo_i_up, ← hu, wo_i_ne 62 (by decide), wo_i_ne 62 (by decide), wo_i_ne 62 (by decide)]
      · rw [wo_i_ne 63 (by decide), wo_i_ne 63 (by decide), ← hv, wo_i_up, wo_i_ne 63 (by decide), wo_i_up, wo_i_ne 63 (by decide), ← hu, wo_i_ne 63 (by decide), wo_i_ne 63 (by decide), wo_i_ne 63 (by decide)]
    | succ d ih =>
      intro i hi hno
      apply vc_X7_point_23
      have nx : ¬ (w.1 59 i = x ∧ w.1 60 i = y) → jj_J K mX7_point (jj_Ri P) 23 [(0, .ref 58), (1, .int x), (2, .int y), (3, .int (nI (i + 1)))] [] w := fun e => ih (i + 1) (by omega) (fun p hp => by
        by_cases e2 : p = i
        · rw [e2]; exact e
        · exact hno p (by omega))
      refine ⟨fun q => ?_, fun _ => ?_⟩
      · exfalso
        rw [h5] at q
        exact absurd q (nI_ge (by omega) (by omega))
      · rw [nn_ad1, nI_clamp (n := i) (by omega)]
        exact ⟨nn_inn (by omega) (by decide), fun q => nx (fun e => q e.1), fun q => ⟨nn_inn (by omega) (by decide), fun q2 => nx (fun e => q2 e.2), fun q2 => k1 ⟨i, by omega, q, q2⟩⟩⟩
  exact loop n 0 (by omega) (fun p hp => by omega)
end

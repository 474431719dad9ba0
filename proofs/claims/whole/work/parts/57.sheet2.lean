/-! ===== the same answers: sheet ===== -/
section
variable {K : jj_K} {w : wo_T}
theorem c_renew {P : wo_T → Prop} {s : Nat} (hs : s < 4) (a b : Int32) (k : ∀ u, u.1 = (wo_i (wo_i (wo_i w (50 + 2 * s) 1 0) (50 + 2 * s) 2 a) (50 + 2 * s) 3 b).1 → (∀ c, c ≠ 50 + 2 * s + 1 → u.2 c = w.2 c) → (∀ i, i < 40 → u.2 (50 + 2 * s + 1) i = 0) → P u) : jj_Cv K mX4_renew [.ref (50 + 2 * s), .int a, .int b] w P := by
  apply en_X4_renew P s hs
  have loop : ∀ d i u, i + d = 40 → u.1 = (wo_i (wo_i (wo_i w (50 + 2 * s) 1 0) (50 + 2 * s) 2 a) (50 + 2 * s) 3 b).1 → (∀ c, c ≠ 50 + 2 * s + 1 → u.2 c = w.2 c) → (∀ j, j < i → u.2 (50 + 2 * s + 1) j = 0) → jj_J K mX4_renew (jj_Rv P) 17 [(0, .ref (50 + 2 * s)), (1, .int a), (2, .int b), (3, .int (nI i))] [] u := by
    intro d
    induction d with
    | zero =>
      intro i u hi h1 h2 h3
      have e : i = 40 := by omega
      subst e
      apply vc_X4_renew_17 P s hs s hs
      exact ⟨fun _ => k u h1 h2 h3, fun q => absurd (by decide) q⟩
    | succ d ih =>
      intro i u hi h1 h2 h3
      apply vc_X4_renew_17 P s hs s hs
      rw [nI_clamp (by omega), nn_ad1]
      refine ⟨fun q => absurd q (nI_ge (b := 40) (by omega) (by decide)), fun _ => ⟨nn_inn (by omega) (by decide), ih (i + 1) _ (by omega) h1 (fun c hc => by rw [wo_l_ne c hc]; exact h2 c hc) (fun j hj => ?_)⟩⟩
      rcases Nat.lt_or_ge j i with q | q
      · rw [wo_l_nk (by omega)]; exact h3 j q
      · have e : j = i := by omega
        rw [e, wo_l_eq]
  exact loop 40 0 _ rfl rfl (fun c _ => rfl) (fun j hj => absurd hj (Nat.not_lt_zero _))
theorem m_clean {P : Int32 → wo_T → Prop} {s : Nat} (hs : s < 4) (a b : Int32) (k : ∀ u, u.1 = w.1 → (∀ c, c ≠ 71 → u.2 c = w.2 c) → (∀ j, j < 40 * s ∨ 40 * s + 40 ≤ j → u.2 71 j = w.2 71 j) → (∀ i, i < 40 → u.2 71 (40 * s + i) = 0) → P b u) : jj_J K mX7_sheet (jj_Ri P) 55 [(0, .ref 58), (1, .int (nI s)), (2, .int a), (3, .int b), (4, .int (nI (40 * s)))] [] w := by
  have e40 : 40 * nI s + 40 = nI (40 * s + 40) := nn_40 s 40
  have loop : ∀ d i u, i + d = 40 → u.1 = w.1 → (∀ c, c ≠ 71 → u.2 c = w.2 c) → (∀ j, j < 40 * s ∨ 40 * s + 40 ≤ j → u.2 71 j = w.2 71 j) → (∀ j, j < i → u.2 71 (40 * s + j) = 0) → jj_J K mX7_sheet (jj_Ri P) 55 [(0, .ref 58), (1, .int (nI s)), (2, .int a), (3, .int b), (4, .int (nI (40 * s + i)))] [] u := by
    intro d
    induction d with
    | zero =>
      intro i u hi h1 h2 h3 h4
      have e : i = 40 := by omega
      subst e
      apply vc_X7_sheet_55
      rw [e40]
      exact ⟨fun _ => k u h1 h2 h3 h4, fun q => absurd (nI_le (Nat.le_refl _) (by omega)) q⟩
    | succ d ih =>
      intro i u hi h1 h2 h3 h4
      apply vc_X7_sheet_55
      rw [e40, nI_clamp (by omega), nn_ad1]
      refine ⟨fun q => absurd q (nI_ge (by omega) (by omega)), fun _ => ⟨nn_inn (by omega) (by decide), ih (i + 1) _ (by omega) h1 (fun c hc => by rw [wo_l_ne c hc]; exact h2 c hc) (fun j hj => by rw [wo_l_nk (by omega)]; exact h3 j hj) (fun j hj => ?_)⟩⟩
      rcases Nat.lt_or_ge j i with q | q
      · rw [wo_l_nk (by omega)]; exact h4 j q
      · have e : j = i := by omega
        rw [e, wo_l_eq]
  exact loop 40 0 w rfl rfl (fun c _ => rfl) (fun j _ => rfl) (fun j hj => absurd hj (Nat.not_lt_zero _))
end

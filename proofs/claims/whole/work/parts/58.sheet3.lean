/-! ===== the same answers: sheet ===== -/
section
variable {K : jj_K} {w : wo_T}
theorem s_sheet (h : iv w) (a b c : Int32) : e_i K mX6_sheet mX7_sheet [.ref 0, .int a, .int b, .int c] [.ref 58, .int a, .int b, .int c] w := by
  have l9 := h.2.2.2.2.2.2.2.2.2.2.2
  apply en_X6_sheet
  refine c_isSheet a (fun s hs e => ⟨fun q => absurd q (by decide), fun _ => c_isWithin b 0 1 ?_⟩) (fun hno => ⟨fun _ => ?_, fun q => absurd rfl q⟩)
  · subst e
    have v4 : vp_in (nI s) 4 := nn_inn hs (by decide)
    -- the model's road, up to its own tests
    have mo : ∀ {P : Int32 → wo_T → Prop} (u : wo_T), ((isIn b 0 1 = false → P (-2) u) ∧ (isIn b 0 1 = true → (c ≤ 40 → (0 ≤ c → vp_in (nI s) 4 ∧ (vp_in (nI s) 4 ∧ (∀ x9 : Int32, x9 = 40 * nI s → (jj_J K mX7_sheet (jj_Ri P) 55 [(0, .ref 58), (1, .int (nI s)), (2, .int b), (3, .int c), (4, .int x9)] [] (wo_i (wo_i u 69 (nI s).toNatClampNeg b) 70 (nI s).toNatClampNeg c))))) ∧ (¬ 0 ≤ c → jj_Ci K mX7_meets [.ref 58, .int 5] u (fun v10 w11 => P v10 w11))) ∧ (¬ c ≤ 40 → P (-2) u))) → jj_Ci K mX7_sheet [.ref 58, .int (nI s), .int b, .int c] u P := by
      intro P u hk
      apply en_X7_sheet
      refine m_isSheet (nI s) (fun s' hs' e' => ⟨fun q => absurd q (by decide), fun _ => m_isIn b 0 1 ?_⟩) (fun hno => absurd rfl (hno s hs))
      cases hb : isIn b 0 1 with
      | false => exact ⟨fun _ => hk.1 hb, fun q => absurd rfl q⟩
      | true => exact ⟨fun q => absurd q (by decide), fun _ => hk.2 hb⟩
    cases hb : isIn b 0 1 with
    | false => exact ⟨fun _ => mo w ⟨fun _ => ⟨rfl, h⟩, fun q => by rw [hb] at q; cases q⟩, fun q => absurd rfl q⟩
    | true =>
      refine ⟨fun q => absurd q (by decide), fun _ => ⟨fun h40 => ⟨fun hc0 => ⟨v4, ?_⟩, fun hc0 => c_found 5 (mo _ ⟨fun q => (by rw [hb] at q; cases q), fun _ => ⟨fun _ => ⟨fun q => absurd q hc0, fun _ => m_meets 5 ⟨rfl, iv_find h 5⟩⟩, fun q => absurd h40 q⟩⟩)⟩, fun h40 => mo w ⟨fun q => (by rw [hb] at q; cases q), fun _ => ⟨fun q => absurd q h40, fun _ => ⟨rfl, h⟩⟩⟩⟩⟩
      obtain ⟨n, hn, hnz⟩ : ∃ n : Nat, n ≤ 40 ∧ c = nI n := by
        rcases pk_ix c (n := 41) (by decide) with q | q | ⟨j, hj, e⟩
        · exfalso
          have a1 := Int32.lt_iff_toInt_lt.mp q
          have a2 := Int32.le_iff_toInt_le.mp hc0
          omega
        · exfalso
          have a1 := Int32.le_iff_toInt_le.mp q
          have a2 := Int32.le_iff_toInt_le.mp h40
          have e1 : (nI 41).toInt = 41 := rfl
          have e2 : (40 : Int32).toInt = 40 := rfl
          rw [e1] at a1
          rw [e2] at a2
          omega
        · exact ⟨j, by omega, e⟩
      obtain ⟨ax, hax, eb⟩ := isIn_ax hb
      rw [nI_clamp (by omega)]
      refine c_renew hs b c (fun u hu1 hu2 hu3 => mo u ⟨fun q => (by rw [hb] at q; cases q), fun _ => ⟨fun _ => ⟨fun _ => ⟨v4, v4, fun x ex => ?_⟩, fun q => absurd hc0 q⟩, fun q => absurd h40 q⟩⟩)
      have e40 : 40 * nI s = nI (40 * s) := pk_mul 40 s
      rw [e40] at ex
      subst ex
      rw [nI_clamp (by omega)]
      refine m_clean hs b c (fun v hv1 hv2 hv3 hv4 => ⟨rfl, ?_⟩)
      have f : ∀ x, x ≠ 50 + 2 * s → x ≠ 69 → x ≠ 70 → v.1 x = w.1 x := fun x h1 h2 h3 => by rw [hv1, wo_i_ne x h3, wo_i_ne x h2, hu1, wo_i_ne x h1, wo_i_ne x h1, wo_i_ne x h1]
      have g : ∀ x, x ≠ 50 + 2 * s + 1 → x ≠ 71 → v.2 x = w.2 x := fun x h1 h2 => by rw [hv2 x h2]; exact hu2 x h1
      refine iv_sh h (fun x h1 h2 => f x (by omega) (by omega) (by omega)) (fun x h1 => g x (by omega) (by omega)) (fun x h1 h2 => f x (by omega) (by omega) (by omega)) (fun x h1 h2 => g x (by omega) (by omega)) (fun j hj => by rw [f 0 (by omega) (by omega) (by omega)]) (fun j hj => by rw [f 58 (by omega) (by omega) (by omega)]) (by rw [f 0 (by omega) (by omega) (by omega), f 58 (by omega) (by omega) (by omega)]; exact h.2.2.2.2.2.2.2.2.2.2.1) (fun t ht => ?_)
      obtain ⟨o1, o2, o3, o4⟩ := l9 t ht
      by_cases e : t = s
      · subst e
        have u1 : u.1 (50 + 2 * t) 1 = 0 := by rw [hu1, wo_i_nk (by omega), wo_i_nk (by omega), wo_i_eq]
        have u2 : u.1 (50 + 2 * t) 2 = b := by rw [hu1, wo_i_nk (by omega), wo_i_eq]
        have u3 : u.1 (50 + 2 * t) 3 = c := by rw [hu1, wo_i_eq]
        have w50 : v.1 (50 + 2 * t) = u.1 (50 + 2 * t) := by rw [hv1, wo_i_ne _ (by omega), wo_i_ne _ (by omega)]
        have w69 : v.1 69 t = b := by rw [hv1, wo_i_ne 69 (by decide), wo_i_eq]
        have w70 : v.1 70 t = c := by rw [hv1, wo_i_eq]
        refine ⟨Or.inl ⟨by rw [w50]; exact u1, by rw [w50, w69, u2], ?_⟩, by rw [w50, w70, u3], ⟨n, hn, by rw [w70]; exact hnz⟩, fun i hi => ?_⟩
        · rw [w69, eb]
          rcases (show ax = 0 ∨ ax = 1 by omega) with q | q
          · rw [q]; exact Or.inl rfl
          · rw [q]; exact Or.inr rfl
        · have e51 : 51 + 2 * t = 50 + 2 * t + 1 := by omega
          rw [e51, hv4 i hi, hv2 _ (by omega)]
          exact hu3 i hi
      · have w69 : v.1 69 t = w.1 69 t := by rw [hv1, wo_i_ne 69 (by decide), wo_i_nk (by omega), hu1, wo_i_ne 69 (by omega), wo_i_ne 69 (by omega), wo_i_ne 69 (by omega)]
        have w70 : v.1 70 t = w.1 70 t := by rw [hv1, wo_i_nk (by omega), wo_i_ne 70 (by decide), hu1, wo_i_ne 70 (by omega), wo_i_ne 70 (by omega), wo_i_ne 70 (by omega)]
        unfold lk_s
        rw [f (50 + 2 * t) (by omega) (by omega) (by omega), w69, w70, g (51 + 2 * t) (by omega) (by omega)]
        refine ⟨o1, o2, o3, fun i hi => ?_⟩
        rw [hv3 _ (by omega)]
        have h71 : (wo_i (wo_i u 69 s b) 70 s c).2 71 = w.2 71 := hu2 71 (by omega)
        rw [h71]
        exact o4 i hi
  · apply en_X7_sheet
    exact m_isSheet a (fun s hs e => absurd e (hno s hs)) (fun _ => ⟨fun _ => ⟨rfl, h⟩, fun q => absurd rfl q⟩)
end

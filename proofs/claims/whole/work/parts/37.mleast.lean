/-! ===== the model: the table of all sets, and the least within some ===== -/
def mt_e (g : gd_T) (u : wo_T) (S : Nat) : Prop := (u.1 66 S = 1 ∧ gd_brs g S ∧ ∃ a b, gd_vol g S a b ∧ Int.gcd a b = 1 ∧ 0 ≤ a ∧ a < 17179869184 ∧ 0 < b ∧ b < 67108864 ∧ u.2 67 S = nn_l a ∧ u.2 68 S = nn_l b) ∨ (u.1 66 S = 0 ∧ ¬ gd_brs g S)
def mt_T (g : gd_T) (u : wo_T) (n : Nat) : Prop := ∀ S, S < n → mt_e g u S
def mt_k (g : gd_T) (u : wo_T) : Prop := u.1 58 13 = 0 ∨ (u.1 58 13 = 1 ∧ mt_T g u (2 ^ gd_m g))
/-- what the search may change -/
def mt_f (w u : wo_T) : Prop := wo_fr [58, 65, 66] [64, 67, 68] w u ∧ ∀ j, j ≠ 9 → j ≠ 13 → u.1 58 j = w.1 58 j
theorem mt_f_rf (w : wo_T) : mt_f w w := ⟨wo_fr_rf _ _ _, fun _ _ _ => rfl⟩
theorem mt_f_tr {w u v : wo_T} (h : mt_f w u) (h2 : mt_f u v) : mt_f w v := ⟨wo_fr_tr h.1 h2.1, fun j hj hk => (h2.2 j hj hk).trans (h.2 j hj hk)⟩
theorem mt_f_md {w u : wo_T} (h : md_f w u) : mt_f w u := ⟨wo_fr_up h.1 (fun b hb => by simp at hb; rcases hb with rfl | rfl <;> simp) (fun b hb => by simp at hb; simp [hb]), fun j hj _ => h.2 j hj⟩
theorem mt_s {w u : wo_T} (h : mt_f w u) : gm_s w u := ⟨h.2 5 (by decide) (by decide), h.1.1 59 (by simp), h.1.1 60 (by simp), h.1.1 61 (by simp), h.1.1 62 (by simp)⟩
theorem mt_e_eq {g : gd_T} {w u : wo_T} {S : Nat} (h1 : u.1 66 S = w.1 66 S) (h2 : u.2 67 S = w.2 67 S) (h3 : u.2 68 S = w.2 68 S) (h : mt_e g w S) : mt_e g u S := by
  unfold mt_e
  rw [h1, h2, h3]
  exact h
theorem mt_k_md {g : gd_T} {w u : wo_T} (h : md_f w u) (hk : mt_k g w) : mt_k g u := by
  unfold mt_k
  rw [h.2 13 (by decide)]
  rcases hk with q | ⟨q, hT⟩
  · exact Or.inl q
  · exact Or.inr ⟨q, fun S hS => mt_e_eq (by rw [h.1.1 66 (by simp)]) (by rw [h.1.2 67 (by simp)]) (by rw [h.1.2 68 (by simp)]) (hT S hS)⟩
theorem vp_nar0 : vp_nar .boolean 0 = 0 := by decide
theorem vp_nar1 : vp_nar .boolean 1 = 1 := by decide
section
variable {K : jj_K} {w : wo_T}
theorem m_finds {P : wo_T → Prop} (h : gm_ok w) (hk : mt_k (gm_g w) w) (k : ∀ u, mt_f w u → u.1 58 13 = 1 → mt_T (gm_g w) u (2 ^ gd_m (gm_g w)) → P u) : jj_Cv K mX7_finds [.ref 58] w P := by
  have hok := h.1
  have hm := gm_m h
  have h1024 : 2 ^ gd_m (gm_g w) ≤ 1024 := by
    have : (2 : Nat) ^ gd_m (gm_g w) ≤ 2 ^ 10 := Nat.pow_le_pow_right (by decide) hm
    omega
  have hpos : 0 < 2 ^ gd_m (gm_g w) := Nat.pow_pos (by decide)
  apply en_X7_finds
  rcases hk with h0 | ⟨h1, hT⟩
  · have loop : ∀ d S u, S + d = 2 ^ gd_m (gm_g w) → mt_f w u → u.1 58 13 = 0 → mt_T (gm_g w) u S → jj_J K mX7_finds (jj_Rv P) 2 [(0, .ref 58), (1, .int (nI S))] [] u := by
      intro d
      induction d with
      | zero =>
        intro S u hS hf h13 hT
        have hs := mt_s hf
        apply vc_X7_finds_2
        refine m_pairs (gm_ok_eq hs h) ?_
        rw [gm_g_eq hs, nn_one (by omega)]
        have e : S = 2 ^ gd_m (gm_g w) := by omega
        refine ⟨fun _ => k _ ⟨wo_fr_i hf.1 (by simp) _ _, fun j a b => by rw [wo_i_nk (by omega)]; exact hf.2 j a b⟩ wo_i_eq (fun T hT2 => mt_e_eq (w := u) (wo_i_nk (by omega)) rfl rfl (hT T (by omega))), fun q => absurd (nI_le (by omega) (by omega)) q⟩
      | succ d ih =>
        intro S u hS hf h13 hT
        have hs := mt_s hf
        have hou := gm_ok_eq hs h
        have hg := gm_g_eq hs
        have hSm : S < 2 ^ gd_m (gm_g w) := by omega
        apply vc_X7_finds_2
        refine m_pairs hou ?_
        rw [hg, nn_one (by omega), h13]
        refine ⟨fun q => absurd q (nI_ge hSm (by omega)), fun _ => ⟨fun q => absurd rfl q, fun _ => m_faultOf hou (by rw [hg]; exact hSm) (fun f u2 hf2 hflt hrep => ?_)⟩⟩
        rw [hg] at hflt hrep
        have hs2 := md_s hf2
        have hou2 := gm_ok_eq hs2 hou
        have hg2 : gm_g u2 = gm_g w := (gm_g_eq hs2).trans hg
        have hfu2 : mt_f w u2 := mt_f_tr hf (mt_f_md hf2)
        have h132 : u2.1 58 13 = 0 := by rw [hf2.2 13 (by decide)]; exact h13
        have hT2 : mt_T (gm_g w) u2 S := fun T hTS => mt_e_eq (by rw [hf2.1.1 66 (by simp)]) (by rw [hf2.1.2 67 (by simp)]) (by rw [hf2.1.2 68 (by simp)]) (hT T hTS)
        rw [nI_clamp (by omega), nn_ad1, vp_nar0, vp_nar1]
        -- a set that doesn't bear
        have no : ¬ gd_brs (gm_g w) S → jj_J K mX7_finds (jj_Rv P) 2 [(0, .ref 58), (1, .int (nI (S + 1)))] [] (wo_i u2 66 S 0) := fun hn => by
          refine ih (S + 1) _ (by omega) ⟨wo_fr_i hfu2.1 (by simp) _ _, fun j a b => by rw [wo_i_nk (by omega)]; exact hfu2.2 j a b⟩ (by rw [wo_i_nk (by omega)]; exact h132) (fun T hTS => ?_)
          rcases Nat.lt_or_ge T S with q | q
          · exact mt_e_eq (w := u2) (wo_i_nk (by omega)) rfl rfl (hT2 T q)
          · have e : T = S := by omega
            rw [e]
            exact Or.inr ⟨wo_i_eq, hn⟩
        have fI : nn_I f := by
          rcases hflt with ⟨e, -⟩ | ⟨v, hv, e, -⟩
          · rw [e]; constructor <;> decide
          · rw [e]; constructor <;> omega
        have e1 : (-1 : Int32) = nn_i (-1) := by decide
        have hiff : nn_i f = -1 ↔ f = -1 := by rw [e1]; exact nn_i_eq fI (by constructor <;> decide)
        rw [hiff]
        refine ⟨fun hn => ⟨nn_inn (by omega) (by decide), nn_inn (by omega) (by decide), fun _ => no (fun hb => ?_), fun q => absurd wo_i_eq q⟩, fun he => ?_⟩
        · rcases hflt with ⟨e, -⟩ | ⟨v, hv, e, hu, -⟩
          · exact hn e
          · exact mb_unt.mpr hb.2 (gd_unt_mono (by omega) hu)
        · obtain ⟨ws, cs, hK, hSs, hD⟩ := hrep he
          have h7 := ff_7 hok hK
          have hpop := gd_pop_le S 10
          have hun : ¬ gd_unt (gm_g w) S 9 := by
            rcases hflt with ⟨-, q⟩ | ⟨v, hv, e, -⟩
            · exact q
            · omega
          obtain ⟨p0, q0, hp0, hsol⟩ := mb_unt.mp hun
          refine m_size (by omega) ?_
          rw [hSs.1, nI_eq (by omega) (by omega)]
          refine ⟨fun hne => ⟨nn_inn (by omega) (by decide), nn_inn (by omega) (by decide), fun _ => no (fun hb => ?_), fun q => absurd wo_i_eq q⟩, fun heq => ⟨nn_inn (by omega) (by decide), nn_inn (by omega) (by decide), fun q => absurd (wo_i_eq.symm.trans q) (by decide), fun _ => ?_⟩⟩
          · exact hne (mb_len hok hSm hK hD hb.1)
          · have hind := mb_ind hok hSm hK (fun i hi => by obtain ⟨-, R, hR, -⟩ := hSs.2 i hi; exact ⟨R, hR⟩) heq
            have hs3 : gm_s u2 (wo_i u2 66 S 1) := ⟨wo_i_nk (by omega), wo_i_ne _ (by omega), wo_i_ne _ (by omega), wo_i_ne _ (by omega), wo_i_ne _ (by omega)⟩
            have hg3 : gm_g (wo_i u2 66 S 1) = gm_g w := (gm_g_eq hs3).trans hg2
            refine m_volumes (gm_ok_eq hs3 hou2) (by rw [hg3]; exact hSm) (ws := ws) (cs := cs) (by rw [hg3]; exact hK) (by
              rw [hg3]
              exact ⟨by rw [wo_i_nk (by omega)]; exact hSs.1, fun i hi => by
                obtain ⟨a, R, b, c⟩ := hSs.2 i hi
                exact ⟨by rw [wo_i_nk (by omega)]; exact a, R, b, c⟩⟩) heq hp0 (by rw [hg3]; exact hsol) (fun a b hv hgc a0 a1 b0 b1 => ?_)
            rw [hg3] at hv
            refine ih (S + 1) _ (by omega) ⟨wo_fr_l (wo_fr_l (wo_fr_i hfu2.1 (by simp) _ _) (by simp) _ _) (by simp) _ _, fun j p q => by rw [wo_l_1, wo_l_1, wo_i_nk (by omega)]; exact hfu2.2 j p q⟩ (by rw [wo_l_1, wo_l_1, wo_i_nk (by omega)]; exact h132) (fun T hTS => ?_)
            rcases Nat.lt_or_ge T S with q | q
            · exact mt_e_eq (w := u2) (by rw [wo_l_1, wo_l_1, wo_i_nk (by omega)]) (by rw [wo_l_nk (by omega), wo_l_nk (by omega), wo_i_2]) (by rw [wo_l_nk (by omega), wo_l_nk (by omega), wo_i_2]) (hT2 T q)
            · have e : T = S := by omega
              rw [e]
              exact Or.inl ⟨by rw [wo_l_1, wo_l_1, wo_i_eq], ⟨hind, p0, q0, hp0, hsol⟩, a, b, hv, hgc, a0, a1, b0, b1, by rw [wo_l_nk (by omega), wo_l_eq], by rw [wo_l_eq]⟩
    exact loop (2 ^ gd_m (gm_g w)) 0 w (by omega) (mt_f_rf w) h0 (fun S hS => absurd hS (Nat.not_lt_zero _))
  · apply vc_X7_finds_2
    refine m_pairs h ?_
    rw [nn_one (by omega), h1]
    have fin : P (wo_i w 58 13 1) := k _ ⟨wo_fr_i (wo_fr_rf _ _ _) (by simp) _ _, fun j a b => wo_i_nk (by omega)⟩ wo_i_eq (fun T hT2 => mt_e_eq (w := w) (wo_i_nk (by omega)) rfl rfl (hT T hT2))
    exact ⟨fun _ => fin, fun _ => ⟨fun _ => fin, fun q => absurd q (by decide)⟩⟩
theorem m_isLess {P : Int32 → wo_T → Prop} {g : gd_T} (hm : gd_m g ≤ 10) (hT : mt_T g w (2 ^ gd_m g)) {S T : Nat} (hS : S < 2 ^ gd_m g) (hT2 : T < 2 ^ gd_m g) (bS : gd_brs g S) (bT : gd_brs g T) (k1 : gd_lt g S T → P 1 w) (k0 : ¬ gd_lt g S T → P 0 w) : jj_Ci K mX7_isLess [.ref 58, .int (nI S), .int (nI T)] w P := by
  have h1024 : 2 ^ gd_m g ≤ 1024 := by
    have : (2 : Nat) ^ gd_m g ≤ 2 ^ 10 := Nat.pow_le_pow_right (by decide) hm
    omega
  rcases hT S hS with ⟨-, -, a, b, hv, -, a0, a1, b0, b1, ea, eb⟩ | ⟨-, q⟩
  · rcases hT T hT2 with ⟨-, -, a', b', hv', -, c0, c1, d0, d1, ec, ed⟩ | ⟨-, q⟩
    · rw [gd_lt_iff bS.1 bT.1 hv hv'] at k1 k0
      apply en_X7_isLess
      have m1 := xs_mul (a := a) (b := b') (A := 17179869184) (B := 67108864) (by omega) a1 (by omega) d1
      have m2 := xs_mul (a := a') (b := b) (A := 17179869184) (B := 67108864) (by omega) c1 (by omega) b1
      rw [nI_clamp (n := S) (by omega), nI_clamp (n := T) (by omega), ea, eb, ec, ed, nn_l_mul, nn_l_mul, nn_l_le (nn_L_of _ (by decide) m2.1 m2.2) (nn_L_of _ (by decide) m1.1 m1.2)]
      exact ⟨nn_inn (by omega) (by decide), nn_inn (by omega) (by decide), nn_inn (by omega) (by decide), nn_inn (by omega) (by decide), fun h => k0 (by omega), fun h => k1 (by omega)⟩
    · exact absurd bT q
  · exact absurd bS q
/-- what an answer of bestOf says -/
def mt_b (g : gd_T) (B : Nat) (v : Int32) : Prop := (v = -1 ∧ gd_none g B) ∨ ∃ S, v = nI S ∧ gd_best g B S
theorem m_bestOf {P : Int32 → wo_T → Prop} (h : gm_ok w) (hk : mt_k (gm_g w) w) {B : Nat} (hB : B < 1024) (k : ∀ v u, mt_f w u → u.1 58 13 = 1 → mt_T (gm_g w) u (2 ^ gd_m (gm_g w)) → mt_b (gm_g w) B v → P v u) : jj_Ci K mX7_bestOf [.ref 58, .int (nI B)] w P := by
  have hok := h.1
  have hm := gm_m h
  have h1024 : 2 ^ gd_m (gm_g w) ≤ 1024 := by
    have : (2 : Nat) ^ gd_m (gm_g w) ≤ 2 ^ 10 := Nat.pow_le_pow_right (by decide) hm
    omega
  apply en_X7_bestOf
  refine m_finds h hk (fun u hf h13 hT => ?_)
  have hs := mt_s hf
  have hou := gm_ok_eq hs h
  have hg := gm_g_eq hs
  have hm1 : ∀ S : Nat, S < 1024 → ¬ nI S = -1 := fun S hS q => by
    have := congrArg Int32.toInt q
    rw [nn_nI_int (by omega)] at this
    have h1 : (-1 : Int32).toInt = -1 := rfl
    rw [h1] at this
    omega
  have loop : ∀ d X v, X + d = 2 ^ gd_m (gm_g w) → ((v = -1 ∧ ∀ T, T < X → gd_sub T B → ¬ gd_brs (gm_g w) T) ∨ ∃ S, v = nI S ∧ S < X ∧ gd_sub S B ∧ gd_brs (gm_g w) S ∧ ∀ T, T < X → gd_sub T B → gd_brs (gm_g w) T → gd_le (gm_g w) S T) → jj_J K mX7_bestOf (jj_Ri P) 8 [(0, .ref 58), (1, .int (nI B)), (2, .int v), (3, .int (nI X))] [] u := by
    intro d
    induction d with
    | zero =>
      intro X v hX hv
      apply vc_X7_bestOf_8
      refine m_pairs hou ?_
      rw [hg, nn_one (by omega)]
      have e : X = 2 ^ gd_m (gm_g w) := by omega
      subst e
      refine ⟨fun _ => k v u hf h13 hT ?_, fun q => absurd (nI_le (by omega) (by omega)) q⟩
      rcases hv with ⟨e, hn⟩ | ⟨S, e, hS, hsub, hb, hle⟩
      · exact Or.inl ⟨e, fun T h1 h2 => hn T h1 h2⟩
      · refine Or.inr ⟨S, e, hsub, hS, hb, fun T h1 h2 h3 a b a' b' hv hv' => ?_⟩
        have h4 := hle T h1 h2 h3
        unfold gd_le at h4
        rw [gd_lt_iff hb.1 h3.1 hv hv', gd_lt_iff h3.1 hb.1 hv' hv] at h4
        omega
    | succ d ih =>
      intro X v hX hv
      have hXm : X < 2 ^ gd_m (gm_g w) := by omega
      apply vc_X7_bestOf_8
      refine m_pairs hou ?_
      rw [hg, nn_one (by omega), nn_sub0 (by omega), nn_ad1, nI_clamp (by omega)]
      -- X doesn't count
      have skip : (gd_sub X B → ¬ gd_brs (gm_g w) X) → jj_J K mX7_bestOf (jj_Ri P) 8 [(0, .ref 58), (1, .int (nI B)), (2, .int v), (3, .int (nI (X + 1)))] [] u := fun hno => by
        refine ih (X + 1) v (by omega) ?_
        rcases hv with ⟨e, hn⟩ | ⟨S, e, hS, hsub, hb, hle⟩
        · refine Or.inl ⟨e, fun T h1 h2 h3 => ?_⟩
          rcases Nat.lt_or_ge T X with q | q
          · exact hn T q h2 h3
          · have e : T = X := by omega
            rw [e] at h2 h3
            exact hno h2 h3
        · refine Or.inr ⟨S, e, by omega, hsub, hb, fun T h1 h2 h3 => ?_⟩
          rcases Nat.lt_or_ge T X with q | q
          · exact hle T q h2 h3
          · have e : T = X := by omega
            rw [e] at h2 h3
            exact absurd h3 (hno h2)
      refine ⟨fun q => absurd q (nI_ge hXm (by omega)), fun _ => ⟨fun hns => skip (fun q => absurd q hns), fun hsb => ⟨nn_inn (by omega) (by decide), ?_⟩⟩⟩
      have hsb2 : gd_sub X B := hsb
      rcases hT X hXm with ⟨e66, hb, -⟩ | ⟨e66, hb⟩
      · rw [e66]
        refine ⟨fun q => absurd q (by decide), fun _ => ?_⟩
        rcases hv with ⟨e, hn⟩ | ⟨S, e, hS, hsub, hbS, hle⟩
        · subst e
          refine ⟨fun _ => ih (X + 1) (nI X) (by omega) (Or.inr ⟨X, rfl, by omega, hsb2, hb, fun T h1 h2 h3 => ?_⟩), fun q => absurd rfl q⟩
          rcases Nat.lt_or_ge T X with q | q
          · exact absurd h3 (hn T q h2)
          · have e : T = X := by omega
            rw [e]
            exact gd_le_rf hb
        · subst e
          refine ⟨fun q => absurd q (hm1 S (by omega)), fun _ => m_isLess hm hT hXm (by omega) hb hbS (fun hlt => ⟨fun q => absurd q (by decide), fun _ => ih (X + 1) (nI X) (by omega) (Or.inr ⟨X, rfl, by omega, hsb2, hb, fun T h1 h2 h3 => ?_⟩)⟩) (fun hnl => ⟨fun _ => ih (X + 1) (nI S) (by omega) (Or.inr ⟨S, rfl, by omega, hsub, hbS, fun T h1 h2 h3 => ?_⟩), fun q => absurd rfl q⟩)⟩
          · rcases Nat.lt_or_ge T X with q | q
            · exact gd_le_tr hbS hb h3 (Or.inl hlt) (hle T q h2 h3)
            · have e : T = X := by omega
              rw [e]
              exact gd_le_rf hb
          · rcases Nat.lt_or_ge T X with q | q
            · exact hle T q h2 h3
            · have e : T = X := by omega
              rw [e]
              exact Or.inr ⟨hnl, by omega⟩
      · rw [e66]
        exact ⟨fun _ => skip (fun _ => hb), fun q => absurd rfl q⟩
  exact loop (2 ^ gd_m (gm_g w)) 0 (-1) (by omega) (Or.inl ⟨rfl, fun T hT => absurd hT (Nat.not_lt_zero _)⟩)
end

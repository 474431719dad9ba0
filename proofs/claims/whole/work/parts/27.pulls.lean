/-! ===== Bearers.solve: the pulls of a set ===== -/
def pl_ok (g : gd_T) (w : wo_T) (o S : Nat) : Prop := ∃ (p : Int) (q : Nat → Int), p ≠ 0 ∧ (-2097153 < p ∧ p < 2097153) ∧ gd_sol g S p q ∧ w.2 o 4 = nn_l p ∧ ∀ k, k < 10 → w.2 (o + 4) k = nn_l (q k) ∧ -67108864 < q k ∧ q k < 67108864
abbrev pl_is (o : Nat) : List Nat := [o, 8, 18, 19, 20]
abbrev pl_ls (o : Nat) : List Nat := [o, o + 4, 10, 11, 12, 13, 14, 15, 16, 17, 21, 22]
theorem tb_q_mem {ks : List Nat} {qs : List Int} (hd : ks.Nodup) (hl : qs.length = ks.length) {j : Nat} (hj : j ∈ ks) : tb_q ks qs j ∈ qs := by
  have h : tb_q ks qs j ∈ ks.map (tb_q ks qs) := List.mem_map_of_mem hj
  rwa [tb_q_map ks qs hd hl] at h
theorem gd_mod_succ {S c : Nat} : S % 2 ^ (c + 1) = S % 2 ^ c + if S.testBit c then 2 ^ c else 0 := by
  have hlt : S % 2 ^ c < 2 ^ c := Nat.mod_lt _ (Nat.two_pow_pos c)
  apply Nat.eq_of_testBit_eq
  intro j
  cases hb : S.testBit c with
  | true =>
    rw [if_pos rfl, gd_tb_add hlt, Nat.testBit_mod_two_pow, Nat.testBit_mod_two_pow]
    by_cases e : j = c
    · subst e; simp [hb]
    · by_cases h4 : j < c
      · simp [h4, Nat.lt_succ_of_lt h4, e]
      · have : ¬ j < c + 1 := by omega
        simp [h4, this, e]
  | false =>
    rw [show S % 2 ^ c + (if false = true then 2 ^ c else 0) = S % 2 ^ c from rfl, Nat.testBit_mod_two_pow, Nat.testBit_mod_two_pow]
    by_cases e : j = c
    · subst e; simp [hb]
    · by_cases h4 : j < c
      · simp [h4, Nat.lt_succ_of_lt h4]
      · have : ¬ j < c + 1 := by omega
        simp [h4, this]
section
variable {K : jj_K} {w : wo_T}
theorem c_bsolve {P : wo_T → Prop} {o : Nat} (ho : o = 23 ∨ o = 29) (hgc : gc_ok w) {S : Nat} (hS : S < 2 ^ gd_m (gc_g w)) (hbr : gd_brs (gc_g w) S) (hcache : ∀ T, T < 1024 → w.1 o 10 = nI T → pl_ok (gc_g w) w o T)
    (k : ∀ u, wo_fr (pl_is o) (pl_ls o) w u → (∀ j, j ≠ 10 → u.1 o j = w.1 o j) → u.1 o 10 = nI S → pl_ok (gc_g w) u o S → P u) : jj_Cv K mX0_solve [.ref o, .ref 1, .int (nI S)] w P := by
  have hok := hgc.1
  have hm := gd_m_le hok
  have hS10 : S < 1024 := Nat.lt_of_lt_of_le hS (Nat.pow_le_pow_right (by decide) hm (n := 2))
  apply en_X0_solve P o ho
  refine ⟨fun _ => ?_, fun e => k w (wo_fr_rf _ _ _) (fun _ _ => rfl) e.symm (hcache S hS10 e.symm)⟩
  refine c_tlay hgc S hS10 (fun u0 hf0 hB0 hL0 => ?_)
  have f0 : wo_fr (pl_is o) (pl_ls o) w u0 := wo_fr_up hf0 (fun b hb => by simp at hb ⊢; omega) (fun b hb => by simp at hb ⊢; omega)
  have hfo0 : ∀ j, u0.1 o j = w.1 o j := fun j => by rw [hf0.1 o (by simp; omega)]
  -- the end: pulls are written
  have fin : ∀ (ks rr : List Nat) (qs : List Int) (u : wo_T), wo_fr (pl_is o) (pl_ls o) w u → (∀ j, u.1 o j = w.1 o j) → tb_B (gc_g w) u → tb_L (gc_g w) S u ks rr → tb_s ks = S → qs.length = ks.length → (∀ v, v < 10 → tb_p (gc_g w) S ks rr * gd_rhs (gc_g w) v = xb_l qs (ks.map (tb_v (gc_g w) S)) v) → tb_S2 u 0 qs →
      ∀ (n : Nat) (x1 x2 : List Nat) (c1 c2 : List Int) (u1 : wo_T), x1.length = n → c1.length = n → ks = x1 ++ x2 → qs = c1 ++ c2 → wo_fr [] [o + 4] u u1 → (∀ j, j < 10 → u1.2 (o + 4) j = nn_l (tb_q x2 c2 j)) →
        jj_J K mX0_solve (jj_Rv P) 83 [(0, .ref o), (1, .ref 1), (2, .int (nI S)), (3, .int (nI ks.length)), (4, .int (nI x2.length))] [] u1 := by
    intro ks rr qs u hfu hfo hB hL hks hql hs hS2
    obtain ⟨a1, a2, a3, a4, a5, a6, a7, a8, a9⟩ := tb_top hL
    have hk10 : ∀ k, k ∈ ks → k < 10 := fun k h => Nat.lt_of_lt_of_le (a6 k h) hm
    have hlam := tb_lam hok a6 a7 a4 hql hs
    have hsol := tb_sol hok a9 a6 a4 hql hs
    have hpb := tb_pbd0 hok S ks rr a6 a7
    intro n
    induction n with
    | zero =>
      intro x1 x2 c1 c2 u1 h1 h2 h3 h4 hf1 hpl
      have e1 : x1 = [] := List.length_eq_zero_iff.mp h1
      have e2 : c1 = [] := List.length_eq_zero_iff.mp h2
      subst e1; subst e2
      simp only [List.nil_append] at h3 h4
      subst h3; subst h4
      apply vc_X0_solve_83 P o ho
      rw [nI_clamp (n := ks.length) (by omega), hf1.2 21 (by simp; omega), a3]
      refine ⟨fun _ => ⟨nn_inn (by omega) (by decide), ?_⟩, fun q => absurd (nI_le (Nat.le_refl _) (by omega)) q⟩
      have f1 : wo_fr (pl_is o) (pl_ls o) w u1 := wo_fr_tr hfu (wo_fr_up hf1 (fun b hb => by cases hb) (fun b hb => by simp at hb ⊢; omega))
      refine k _ (wo_fr_i (wo_fr_l f1 (by simp) _ _) (by simp) _ _) (fun j hj => ?_) wo_i_eq ⟨tb_p (gc_g w) S ks rr, tb_q ks qs, a4, hpb, hks ▸ hsol, ?_, fun j hj => ⟨?_, ?_⟩⟩
      · rw [wo_i_nk (by omega), wo_l_1, hf1.1 o (by simp), hfo]
      · rw [wo_i_2, wo_l_eq]
      · rw [wo_i_2, wo_l_nk (by omega)]; exact hpl j hj
      · rcases Classical.em (j ∈ ks) with hjk | hjk
        · exact hlam _ (tb_q_mem a9 hql hjk)
        · rw [tb_q_out ks qs j hjk]; decide
    | succ n ih =>
      intro x1 x2 c1 c2 u1 h1 h2 h3 h4 hf1 hpl
      rcases List.eq_nil_or_concat x1 with e1 | ⟨b1, x, e1⟩
      · rw [e1] at h1; simp at h1
      · rcases List.eq_nil_or_concat c1 with e2 | ⟨d1, y, e2⟩
        · rw [e2] at h2; simp at h2
        · rw [List.concat_eq_append] at e1 e2
          subst e1; subst e2
          have hxl : x2.length < ks.length := by rw [h3]; simp; omega
          have hc2 : x2.length = c2.length := by
            have q1 := congrArg List.length h3
            have q2 := congrArg List.length h4
            simp at q1 q2 h1 h2; omega
          have hLx : tb_L (gc_g w) S u (b1 ++ x :: x2) (rr.take b1.length ++ rr.drop b1.length) := by
            rw [List.take_append_drop]
            have : b1 ++ x :: x2 = ks := by rw [h3]; simp
            rw [this]; exact hL
          have hrl : rr.length = b1.length + 1 + x2.length := by
            rw [a1, h3]; simp; omega
          obtain ⟨z1, z2⟩ := tb_suf (by rw [List.length_take]; omega) hLx
          have hx : u.1 18 x2.length = nI x ∧ x < gd_m (gc_g w) ∧ x ∉ x2 := by
            cases hd : rr.drop b1.length with
            | nil => have := congrArg List.length hd; simp at this; omega
            | cons r0 rt =>
              rw [hd] at z1
              have z3 := tb_hd z1
              exact ⟨z3.1, z3.2.2.1, fun q => absurd (z1.2.2.1 x q) (Nat.lt_irrefl _)⟩
          have hy : u.2 22 x2.length = nn_l y := by
            rw [hc2]
            rw [h4] at hS2
            simp only [List.append_assoc, List.singleton_append] at hS2
            have := tb_S2_mid hS2
            rwa [Nat.zero_add] at this
          apply vc_X0_solve_83 P o ho
          rw [nI_clamp (n := x2.length) (by omega), hf1.1 18 (by simp), hx.1, nI_clamp (n := x) (by omega), hf1.2 22 (by simp; omega), hy, nn_ad1]
          refine ⟨fun q => absurd q (nI_ge hxl (by omega)), fun _ => ⟨nn_inn (by omega) (by decide), nn_inn (by omega) (by decide), nn_inn (by omega) (by decide), ?_⟩⟩
          refine ih b1 (x :: x2) d1 (y :: c2) _ (by simpa using h1) (by simpa using h2) (by rw [h3]; simp) (by rw [h4]; simp) (wo_fr_l hf1 (by simp) _ _) (fun j hj => ?_)
          simp only [tb_q]
          by_cases e : j = x
          · subst e; rw [wo_l_eq, if_pos rfl]
          · rw [wo_l_nk (by omega), if_neg e]; exact hpl j hj
  -- columns enter one by one
  have loop : ∀ d c u ks rr, c + d = 10 → wo_fr (pl_is o) (pl_ls o) w u → (∀ j, u.1 o j = w.1 o j) → tb_B (gc_g w) u → tb_L (gc_g w) S u ks rr → tb_s ks = S % 2 ^ c → (∀ j, j ∈ ks → j < c) → (∀ j, j < c → u.2 (o + 4) j = nn_l 0) →
      jj_J K mX0_solve (jj_Rv P) 23 [(0, .ref o), (1, .ref 1), (2, .int (nI S)), (3, .int (nI ks.length)), (4, .int (nI c))] [] u := by
    intro d
    induction d with
    | zero =>
      intro c u ks rr hc hfu hfo hB hL hks hlt hpl
      have ec : c = 10 := by omega
      subst ec
      obtain ⟨a1, a2, a3, a4, a5, a6, a7, a8, a9⟩ := tb_top hL
      have hks2 : tb_s ks = S := by rw [hks]; exact Nat.mod_eq_of_lt hS10
      have hz : ∀ r, r < tb_r (gc_g w) → r ∉ rr → tb_p (gc_g w) S (gd_m (gc_g w) :: ks) (r :: rr) = 0 := by
        intro r hr hn
        rcases Classical.em (tb_p (gc_g w) S (gd_m (gc_g w) :: ks) (r :: rr) = 0) with h | h
        · exact h
        · obtain ⟨-, p', q', hp', hs'⟩ := hbr
          rw [← hks2] at hs'
          exact absurd (tb_notsol hok a9 a6 a4 hr h hs') hp'
      obtain ⟨qs, hql, hs0⟩ := tb_zero a8 hz
      have hs : ∀ v, v < 10 → tb_p (gc_g w) S ks rr * gd_rhs (gc_g w) v = xb_l qs (ks.map (tb_v (gc_g w) S)) v := fun v hv => by
        have := hs0 v hv
        simpa [tb_v] using this
      apply vc_X0_solve_23 P o ho
      refine ⟨fun _ => c_tsolve hok hB hL qs hql hs (fun u1 hf1 hS2 => ?_), fun q => absurd (by decide) q⟩
      have hL1 : tb_L (gc_g w) S u1 ks rr := tb_L_fr (fun j _ => ⟨by rw [hf1.1 18 (by simp)], by rw [hf1.1 19 (by simp)]⟩) (fun j hj => ⟨by rw [hf1.1 20 (by simp)], by rw [hf1.2 21 (by simp)], by rw [hf1.2 (10 + j) (by simp; omega)]⟩) hL
      exact fin ks rr qs u1 (wo_fr_tr hfu (wo_fr_up hf1 (fun b hb => by cases hb) (fun b hb => by simp at hb; simp [hb]))) (fun j => by rw [hf1.1 o (by simp)]; exact hfo j) ⟨by rw [hf1.1 8 (by simp)]; exact hB.1, by rw [hf1.1 8 (by simp)]; exact hB.2⟩ hL1 hks2 hql hs hS2 ks.length ks [] qs [] u1 rfl hql (by simp) (by simp) (wo_fr_rf _ _ _) (fun j hj => by rw [hf1.2 (o + 4) (by simp; omega), hpl j hj]; simp [tb_q])
    | succ d ih =>
      intro c u ks rr hc hfu hfo hB hL hks hlt hpl
      have hc10 : c < 10 := by omega
      obtain ⟨a1, a2, a3, a4, a5, a6, a7, a8, a9⟩ := tb_top hL
      have hk10 : ∀ k, k ∈ ks → k < 10 := fun k h => Nat.lt_of_lt_of_le (a6 k h) hm
      apply vc_X0_solve_23 P o ho
      rw [nI_clamp (n := c) (by omega), wo_l_1, hB.2, nn_ad1, nn_ad1]
      have fl : wo_fr (pl_is o) (pl_ls o) w (wo_l u (o + 4) c 0) := wo_fr_l hfu (by simp) _ _
      have hBl : tb_B (gc_g w) (wo_l u (o + 4) c 0) := hB
      have hLl : tb_L (gc_g w) S (wo_l u (o + 4) c 0) ks rr := tb_L_fr (w := u) (fun j _ => ⟨rfl, rfl⟩) (fun j hj => ⟨rfl, by rw [wo_l_nk (by omega)], by rw [wo_l_ne _ (by omega)]⟩) hL
      have hpll : ∀ j, j < c + 1 → (wo_l u (o + 4) c 0).2 (o + 4) j = nn_l 0 := fun j hj => by
        by_cases e : j = c
        · subst e; rw [wo_l_eq]; rfl
        · rw [wo_l_nk (by omega)]; exact hpl j (by omega)
      refine ⟨fun q => absurd q (nI_ge (b := 10) (by omega) (by decide)), fun _ => ⟨nn_inn (by omega) (by decide), fun hcm => ?_, fun hcm => ?_⟩⟩
      · -- beyond the last pair
        rw [nI_leI (by omega) (by omega)] at hcm
        refine ih (c + 1) _ ks rr (by omega) fl hfo hBl hLl ?_ (fun j hj => Nat.lt_succ_of_lt (hlt j hj)) hpll
        rw [hks, gd_mod_succ, gd_big hS hcm]; simp
      · rw [nI_leI (by omega) (by omega)] at hcm
        have hcm2 : c < gd_m (gc_g w) := by omega
        refine c_enter hok hBl hLl c hlt hcm2 (fun r u2 hf2 hL2 => ?_) (fun hz => ?_)
        · refine ⟨fun q => absurd q (by decide), fun _ => ?_⟩
          obtain ⟨b1, b2, b3, b4, b5, b6, b7, b8, b9⟩ := tb_top hL2
          have h7 : ks.length < 7 := hL2.2.2.2.2.2.1
          have hbit : S.testBit c = true := tb_allowed b6 b4 c List.mem_cons_self
          have f2 : wo_fr (pl_is o) (pl_ls o) w u2 := wo_fr_tr fl (wo_fr_up hf2 (fun b hb => by simp at hb ⊢; omega) (fun b hb => by simp at hb ⊢; omega))
          refine ih (c + 1) u2 (c :: ks) (r :: rr) (by omega) f2 (fun j => by rw [hf2.1 o (by simp; omega)]; exact hfo j) ⟨by rw [hf2.1 8 (by simp)]; exact hBl.1, by rw [hf2.1 8 (by simp)]; exact hBl.2⟩ hL2 ?_ (fun j hj => ?_) (fun j hj => by rw [hf2.2 (o + 4) (by simp; omega)]; exact hpll j hj)
          · rw [tb_s_cons hk10 hc10 hlt, hks, gd_mod_succ, hbit]; simp
          · rcases List.mem_cons.mp hj with rfl | hj
            · exact Nat.lt_succ_self _
            · exact Nat.lt_succ_of_lt (hlt j hj)
        · refine ⟨fun _ => ?_, fun q => absurd rfl q⟩
          have hbit : S.testBit c = false := by
            cases hb : S.testBit c with
            | false => rfl
            | true =>
              exfalso
              refine tb_dep hok a9 a6 a4 a8 hcm2 hb (fun q => absurd (hlt c q) (Nat.lt_irrefl _)) hz (gt_sub hk10 hc10 hb hks.symm) hbr.1
          refine ih (c + 1) _ ks rr (by omega) fl hfo hBl hLl ?_ (fun j hj => Nat.lt_succ_of_lt (hlt j hj)) hpll
          rw [hks, gd_mod_succ, hbit]; simp
  exact loop 10 0 u0 [] [] (by decide) f0 hfo0 hB0 hL0 (by rw [Nat.pow_zero, Nat.mod_one]; decide) (fun j hj => by cases hj) (fun j hj => absurd hj (Nat.not_lt_zero _))
end

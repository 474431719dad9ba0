/-! ===== Bearers.keep ===== -/
theorem nn_l_abs {y : Int} (h : nn_L y) : (if 0 < nn_l y then nn_l y else -nn_l y) = nn_l (y.natAbs : Int) := by
  have e : 0 < nn_l y ↔ 0 < y := nn_l_lt (a := 0) (by constructor <;> decide) h
  by_cases h1 : 0 < y
  · rw [if_pos (e.mpr h1)]
    congr 1; omega
  · rw [if_neg (fun q => h1 (e.mp q)), nn_l_neg]
    congr 1; omega
theorem tb_lam {g : gd_T} {A : Nat} {ks rr : List Nat} (hok : gd_ok g) (hk : ∀ k, k ∈ ks → k < gd_m g) (hl7 : ks.length ≤ 7) (hp : tb_p g A ks rr ≠ 0) {qs : List Int} (hl : qs.length = ks.length) (hs : ∀ v, v < 10 → tb_p g A ks rr * gd_rhs g v = xb_l qs (ks.map (tb_v g A)) v) : ∀ q, q ∈ qs → -67108864 < q ∧ q < 67108864 := by
  intro q hq
  obtain ⟨cs, q2, e3⟩ := List.append_of_mem hq
  have hcl : cs.length < ks.length := by rw [← hl, e3]; simp
  have e1 : ks = ks.take cs.length ++ ks.drop cs.length := (List.take_append_drop _ _).symm
  cases hd : ks.drop cs.length with
  | nil => have := congrArg List.length hd; simp at this; omega
  | cons k k2 =>
    rw [hd] at e1
    generalize has : ks.take cs.length = as at e1
    have hal : cs.length = as.length := by rw [← has, List.length_take]; omega
    have hmv : tb_v g A (gd_m g) = gd_rhs g := by simp [tb_v]
    have hcr := xb_cramer 10 (rr.map (tb_f g)) (tb_p g A ks rr) (gd_rhs g) (as.map (tb_v g A)) (tb_v g A k) (k2.map (tb_v g A)) cs q q2 (by simpa using hal) (by unfold tb_p; rw [e1]; simp) hp (fun v hv => by
      have := hs v hv
      rw [e3] at this
      rw [this]
      rw [e1, List.map_append, List.map_cons])
    have hb := tb_pbd hok A (gd_m g) (as ++ k2) rr (Nat.le_refl _) (fun j hj => hk j (by
      rw [e1]
      rcases List.mem_append.mp hj with h | h
      · exact List.mem_append_left _ h
      · exact List.mem_append_right _ (List.mem_cons_of_mem _ h))) (by
        have := congrArg List.length e1
        simp at this ⊢; omega)
    have e6 : tb_p g A (gd_m g :: (as ++ k2)) rr = xb_p 10 (rr.map (tb_f g)) (gd_rhs g :: (as.map (tb_v g A) ++ k2.map (tb_v g A))) := by
      simp [tb_p, hmv]
    rw [e6] at hb
    rcases hcr with h | h <;> omega
def bk_v (g : gd_T) (qs : List Int) (ks : List Nat) : Int := xb_l (qs.map (fun q => (q.natAbs : Int))) (ks.map (fun k => fun (_ : Nat) => gd_quad g k)) 0
theorem bk_v_eq {g : gd_T} {ks : List Nat} {qs : List Int} (hd : ks.Nodup) (hk : ∀ k, k ∈ ks → k < 10) (hl : qs.length = ks.length) : gd_v g (tb_q ks qs) = bk_v g qs ks := by
  have h := tb_lsum (fun k => fun (_ : Nat) => gd_quad g k) 0 ks (fun k => ((tb_q ks qs k).natAbs : Int)) 10 hd hk (fun k hn => by rw [tb_q_out ks qs k hn]; rfl)
  have e : ks.map (fun k => ((tb_q ks qs k).natAbs : Int)) = qs.map (fun q => (q.natAbs : Int)) := by
    have := tb_q_map ks qs hd hl
    rw [← this, List.map_map]
    rw [this]
    rfl
  rw [e] at h
  unfold gd_v bk_v
  rw [← h]
  exact gd_s_congr 10 (fun k _ => Int.mul_comm _ _)
def bk_e (g : gd_T) (w : wo_T) (o i S : Nat) : Prop := ∃ a b : Int, w.1 (o + 1) i = nI S ∧ w.2 (o + 2) i = nn_l a ∧ w.2 (o + 3) i = nn_l b ∧ gd_vol g S a b ∧ 0 ≤ a ∧ a < 34359738368 ∧ 0 < b ∧ b < 2097153
def bk_L (g : gd_T) (A : Nat) (w : wo_T) (o : Nat) (L : List Nat) : Prop := w.1 o 7 = nI L.length ∧ (∀ i S, L[i]? = some S → bk_e g w o i S) ∧ (∀ S, S ∈ L → gd_val g S ∧ S < 2 ^ gd_m g ∧ gd_sub S A) ∧ L.Nodup
theorem bk_252 {g : gd_T} (hok : gd_ok g) {L : List Nat} (hn : L.Nodup) (h : ∀ S, S ∈ L → gd_val g S ∧ S < 2 ^ gd_m g) : L.length ≤ 252 := by
  refine sp_max hn (fun S hS => Nat.lt_of_lt_of_le (h S hS).2 ?_) (fun S T hS hT hsub => gd_anti (h S hS).1 (h T hT).1 hsub)
  exact Nat.pow_le_pow_right (by decide) (gd_m_le hok) (n := 2)
theorem bk_v_bd {g : gd_T} (hok : gd_ok g) : ∀ (ks : List Nat) (qs : List Int), (∀ k, k ∈ ks → k < gd_m g) → (∀ q, q ∈ qs → -67108864 < q ∧ q < 67108864) → 0 ≤ bk_v g qs ks ∧ bk_v g qs ks ≤ 2147483648 * ks.length
  | [], qs, _, _ => by cases qs <;> simp [bk_v, xb_l]
  | k :: ks, [], _, _ => by simp [bk_v, xb_l]; omega
  | k :: ks, q :: qs, hk, hq => by
    have ih := bk_v_bd hok ks qs (fun j hj => hk j (List.mem_cons_of_mem _ hj)) (fun j hj => hq j (List.mem_cons_of_mem _ hj))
    have h1 := gd_quad_nn g k
    have h2 := gd_quad_le hok (hk k List.mem_cons_self)
    have h3 := hq q List.mem_cons_self
    have e : bk_v g (q :: qs) (k :: ks) = (q.natAbs : Int) * gd_quad g k + bk_v g qs ks := rfl
    have h4 : (q.natAbs : Int) * gd_quad g k ≤ 67108864 * 32 := Int.mul_le_mul (by omega) h2 h1 (by decide)
    have h5 : 0 ≤ (q.natAbs : Int) * gd_quad g k := Int.mul_nonneg (by omega) h1
    rw [e]
    simp only [List.length_cons]
    omega
section
variable {K : jj_K} {w : wo_T} {A : Nat} {ks rr : List Nat}
theorem c_keep {P : wo_T → Prop} {o : Nat} (ho : o = 23 ∨ o = 29) (hgc : gc_ok w) (hB : tb_B (gc_g w) w) (hL : tb_L (gc_g w) A w ks rr) (hb : ∀ r, r < tb_r (gc_g w) → r ∉ rr → tb_p (gc_g w) A (gd_m (gc_g w) :: ks) (r :: rr) = 0) {L : List Nat} (hbk : bk_L (gc_g w) A w o L) (hS : tb_s ks ∉ L)
    (k : ∀ u L', wo_fr [o, o + 1] [o + 2, o + 3, 22] w u → (∀ j, j ≠ 7 → u.1 o j = w.1 o j) → bk_L (gc_g w) A u o L' → (L' = L ++ [tb_s ks] ∨ (L' = L ∧ ¬ gd_val (gc_g w) (tb_s ks))) → P u) : jj_Cv K mX0_keep [.ref o, .ref 1, .int (nI ks.length)] w P := by
  have hok := hgc.1
  obtain ⟨a1, a2, a3, a4, a5, a6, a7, a8, a9⟩ := tb_top hL
  have hm := gd_m_le hok
  have hk10 : ∀ k, k ∈ ks → k < 10 := fun k h => Nat.lt_of_lt_of_le (a6 k h) hm
  obtain ⟨qs, hql, hs0⟩ := tb_zero a8 hb
  have hs : ∀ v, v < 10 → tb_p (gc_g w) A ks rr * gd_rhs (gc_g w) v = xb_l qs (ks.map (tb_v (gc_g w) A)) v := fun v hv => by
    have := hs0 v hv
    simpa [tb_v] using this
  have hlam := tb_lam hok a6 a7 a4 hql hs
  have hsol := tb_sol hok a9 a6 a4 hql hs
  have hind := tb_indep hok a9 a6 a4
  have hpb := tb_pbd0 hok A ks rr a6 a7
  apply en_X0_keep P o ho
  refine c_tsolve hok hB hL qs hql hs (fun u hfr hS2 => ?_)
  have hofr : ∀ b, u.1 b = w.1 b := fun b => hfr.1 b (by simp)
  have hbku : bk_L (gc_g w) A u o L := by
    obtain ⟨b1, b2, b3⟩ := hbk
    refine ⟨by rw [hofr]; exact b1, fun i S hi => ?_, b3⟩
    obtain ⟨a, b, e1, e2, e3, e4⟩ := b2 i S hi
    exact ⟨a, b, by rw [hofr]; exact e1, by rw [hfr.2 _ (by simp; omega)]; exact e2, by rw [hfr.2 _ (by simp; omega)]; exact e3, e4⟩
  have hfrW : wo_fr [o, o + 1] [o + 2, o + 3, 22] w u := wo_fr_up hfr (fun b hb => by cases hb) (fun b hb => by simp at hb; simp [hb])
  have loop : ∀ (n : Nat) (x1 x2 : List Nat) (c1 c2 : List Int), x1.length = n → c1.length = n → ks = x1 ++ x2 → qs = c1 ++ c2 → (∀ q, q ∈ c2 → q ≠ 0) →
      jj_J K mX0_keep (jj_Rv P) 16 [(0, .ref o), (1, .ref 1), (2, .int (nI ks.length)), (3, .int (nI (tb_s x2))), (4, .long (nn_l (bk_v (gc_g w) c2 x2))), (6, .int (nI x2.length))] [] u := by
    intro n
    induction n with
    | zero =>
      intro x1 x2 c1 c2 h1 h2 h3 h4 hnz
      have e1 : x1 = [] := List.length_eq_zero_iff.mp h1
      have e2 : c1 = [] := List.length_eq_zero_iff.mp h2
      subst e1; subst e2
      simp only [List.nil_append] at h3 h4
      subst h3; subst h4
      -- all are used: the set is kept
      have hval : gd_val (gc_g w) (tb_s ks) := ⟨hind, _, _, a4, hsol, fun j hj => by
        rw [tb_s_tb ks hk10] at hj
        have hj1 : j ∈ ks := by simpa using hj
        have : tb_q ks qs j ∈ ks.map (tb_q ks qs) := List.mem_map_of_mem hj1
        rw [tb_q_map ks qs a9 hql] at this
        exact hnz _ this⟩
      have hlt2 : tb_s ks < 2 ^ gd_m (gc_g w) := tb_s_ltm ks hm a6
      have hsubA : gd_sub (tb_s ks) A := fun j hj => by
        rw [tb_s_tb ks hk10] at hj
        exact tb_allowed a6 a4 j (by simpa using hj)
      have hnd : (L ++ [tb_s ks]).Nodup := by
        rw [List.nodup_append]
        refine ⟨hbk.2.2.2, by simp, fun a ha b hb => ?_⟩
        rw [List.mem_singleton] at hb
        rintro rfl
        exact hS (hb ▸ ha)
      have h252 : L.length + 1 ≤ 252 := by
        have := bk_252 hok hnd (fun S hS1 => by
          rcases List.mem_append.mp hS1 with h | h
          · exact ⟨(hbk.2.2.1 S h).1, (hbk.2.2.1 S h).2.1⟩
          · rw [List.mem_singleton] at h; subst h; exact ⟨hval, hlt2⟩)
        simpa using this
      apply vc_X0_keep_16 P o ho
      have hsz := hbku.1
      have hpp : u.2 21 ks.length = nn_l (tb_p (gc_g w) A ks rr) := by rw [hfr.2 21 (by simp)]; exact a3
      have r1 : ∀ (x : Nat) (v : Int32), (wo_i u (o + 1) x v).1 o 7 = u.1 o 7 := fun x v => wo_i_nk (by omega)
      simp only [r1, wo_l_1, wo_l_ne 21 (show (21 : Nat) ≠ o + 2 by omega), wo_i_2]
      rw [hsz, nI_clamp (n := L.length) (by omega), nI_clamp (n := ks.length) (by omega), hpp, nn_l_abs (nn_L_of 2097153 (by decide) hpb.1 hpb.2), nn_ad1]
      refine ⟨fun _ => ⟨fun q => absurd q (nI_ge (b := 252) (by omega) (by decide)), fun _ => ⟨nn_inn (by omega) (by decide), nn_inn (by omega) (by decide), nn_inn (by omega) (by decide), nn_inn (by omega) (by decide), ?_⟩⟩, fun q => absurd (nI_le (Nat.le_refl _) (by omega)) q⟩
      have hvb := bk_v_bd hok ks qs a6 hlam
      refine k _ (L ++ [tb_s ks]) (wo_fr_i (wo_fr_l (wo_fr_l (wo_fr_i hfrW (by simp) _ _) (by simp) _ _) (by simp) _ _) (by simp) _ _) (fun j hj => ?_) ⟨?_, fun i S hi => ?_, fun S hS1 => ?_, hnd⟩ (Or.inl rfl)
      · rw [wo_i_nk (by omega), wo_l_1, wo_l_1, wo_i_nk (by omega), hofr]
      · rw [wo_i_eq]; simp
      · rcases Nat.lt_or_ge i L.length with hi1 | hi1
        · rw [List.getElem?_append_left hi1] at hi
          obtain ⟨a, b, e1, e2, e3, e4⟩ := hbku.2.1 i S hi
          refine ⟨a, b, ?_, ?_, ?_, e4⟩
          · rw [wo_i_nk (by omega), wo_l_1, wo_l_1, wo_i_nk (by omega)]; exact e1
          · rw [wo_i_2, wo_l_nk (by omega), wo_l_nk (by omega), wo_i_2]; exact e2
          · rw [wo_i_2, wo_l_nk (by omega), wo_l_nk (by omega), wo_i_2]; exact e3
        · rw [List.getElem?_append_right hi1] at hi
          have hi2 : i = L.length := by
            have := (List.getElem?_eq_some_iff.mp hi).1
            simp at this; omega
          subst hi2
          simp at hi
          subst hi
          refine ⟨bk_v (gc_g w) qs ks, ((tb_p (gc_g w) A ks rr).natAbs : Int), ?_, ?_, ?_, ⟨by omega, _, _, a4, hsol, ?_⟩, hvb.1, by omega, by omega, by omega⟩
          · rw [wo_i_nk (by omega), wo_l_1, wo_l_1, wo_i_eq]
          · rw [wo_i_2, wo_l_nk (by omega), wo_l_eq]
          · rw [wo_i_2, wo_l_eq]
          · rw [bk_v_eq a9 hk10 hql]; exact Int.mul_comm _ _
      · rcases List.mem_append.mp hS1 with h | h
        · exact hbk.2.2.1 S h
        · rw [List.mem_singleton] at h; subst h; exact ⟨hval, hlt2, hsubA⟩
    | succ n ih =>
      intro x1 x2 c1 c2 h1 h2 h3 h4 hnz
      rcases List.eq_nil_or_concat x1 with e1 | ⟨b1, x, e1⟩
      · rw [e1] at h1; simp at h1
      · rcases List.eq_nil_or_concat c1 with e2 | ⟨d1, y, e2⟩
        · rw [e2] at h2; simp at h2
        · rw [List.concat_eq_append] at e1 e2
          subst e1; subst e2
          have hxl : x2.length < ks.length := by rw [h3]; simp; omega
          have hc2 : x2.length = c2.length := by
            have q1 := congrArg List.length h3
            have q2 := congrArg List.length h4
            simp at q1 q2 h1 h2; omega
          have hLx : tb_L (gc_g w) A w (b1 ++ x :: x2) (rr.take b1.length ++ rr.drop b1.length) := by
            rw [List.take_append_drop]
            have : b1 ++ x :: x2 = ks := by rw [h3]; simp
            rw [this]; exact hL
          have hrl : rr.length = b1.length + 1 + x2.length := by
            rw [a1, h3]; simp; omega
          obtain ⟨z1, z2⟩ := tb_suf (by rw [List.length_take]; omega) hLx
          have hx : u.1 18 x2.length = nI x ∧ x < gd_m (gc_g w) := by
            cases hd : rr.drop b1.length with
            | nil => have := congrArg List.length hd; simp at this; omega
            | cons r0 rt =>
              rw [hd] at z1
              have z3 := tb_hd z1
              exact ⟨by rw [hofr]; exact z3.1, z3.2.2.1⟩
          have hxlt : ∀ j, j ∈ x2 → j < x := by
            cases hd : rr.drop b1.length with
            | nil => have := congrArg List.length hd; simp at this; omega
            | cons r0 rt =>
              rw [hd] at z1
              exact z1.2.2.1
          have hy : u.2 22 x2.length = nn_l y := by
            rw [hc2]
            rw [h4] at hS2
            simp only [List.append_assoc, List.singleton_append] at hS2
            have := tb_S2_mid hS2
            rwa [Nat.zero_add] at this
          have hyq : y ∈ qs := by rw [h4]; simp
          have hyb := hlam y hyq
          have hyL : nn_L y := nn_L_of 67108864 (by decide) hyb.1 hyb.2
          have hx2 : ∀ j, j ∈ x2 → j < 10 := fun j hj => hk10 j (by rw [h3]; simp [hj])
          apply vc_X0_keep_16 P o ho
          rw [nI_clamp (n := x2.length) (by omega), hy, hx.1, nn_l_abs hyL, nn_l_eq0 hyL, nn_ad1]
          refine ⟨fun q => absurd q (nI_ge hxl (by omega)), fun _ => ⟨nn_inn (by omega) (by decide), fun hy0 => ⟨nn_inn (by omega) (by decide), fun x4 e4 x5 e5 => ?_⟩, fun hy0 => ?_⟩⟩
          · subst e4
            rw [nn_one (by omega), nn_or] at e5
            subst e5
            rw [nI_clamp (by omega)]
            refine ⟨nn_inn (by omega) (by decide), nn_inn (by omega) (by decide), fun x6 e6 => ?_⟩
            have hq7 := (hgc.2.2.2 x hx.2).2.2
            have hqb := gd_quad_le hok hx.2
            have hqn := gd_quad_nn (gc_g w) x
            rw [hofr 7, hq7, nn_i_l ⟨by omega, by omega⟩, nn_l_mul, nn_l_add] at e6
            subst e6
            have hor : tb_s x2 ||| 2 ^ x = tb_s (x :: x2) := by
              apply Nat.eq_of_testBit_eq
              intro j
              rw [Nat.testBit_or, Nat.testBit_two_pow, tb_s_tb x2 hx2, tb_s_tb (x :: x2) (fun j hj => by
                rcases List.mem_cons.mp hj with rfl | hj
                · omega
                · exact hx2 j hj)]
              by_cases e : x = j
              · subst e; simp
              · have e2 : ¬ j = x := fun q => e q.symm
                simp [e, e2]
            have hbv : bk_v (gc_g w) c2 x2 + gd_quad (gc_g w) x * (y.natAbs : Int) = bk_v (gc_g w) (y :: c2) (x :: x2) := by
              have e : bk_v (gc_g w) (y :: c2) (x :: x2) = (y.natAbs : Int) * gd_quad (gc_g w) x + bk_v (gc_g w) c2 x2 := rfl
              rw [e, Int.mul_comm]; omega
            rw [hor, hbv]
            exact ih b1 (x :: x2) d1 (y :: c2) (by simpa using h1) (by simpa using h2) (by rw [h3]; simp) (by rw [h4]; simp) (fun q hq => by
              rcases List.mem_cons.mp hq with rfl | hq
              · exact hy0
              · exact hnz q hq)
          · refine k u L hfrW (fun j _ => by rw [hofr]) hbku (Or.inr ⟨rfl, fun hv => ?_⟩)
            obtain ⟨-, p', q', hp', hs', hn'⟩ := hv
            have hxk : x ∈ ks := by rw [h3]; simp
            have e := gd_same hind hsol hs' x
            have hqx : tb_q ks qs x = 0 := by
              have hmap := tb_q_map ks qs a9 hql
              have hb2 : ks = b1 ++ x :: x2 := by rw [h3]; simp
              have hq2 : qs = d1 ++ y :: c2 := by rw [h4]; simp
              have hget : (ks.map (tb_q ks qs))[b1.length]? = qs[b1.length]? := by rw [hmap]
              have hdl : d1.length = b1.length := by simp at h1 h2; omega
              rw [List.getElem?_map] at hget
              have g1 : ks[b1.length]? = some x := by rw [hb2]; simp
              have g2 : qs[b1.length]? = some y := by rw [hq2, ← hdl]; simp
              rw [g1, g2] at hget
              simp only [Option.map_some, Option.some.injEq] at hget
              rw [hget]; exact hy0
            rw [hqx, Int.mul_zero] at e
            rcases Int.mul_eq_zero.mp e.symm with h | h
            · exact a4 h
            · exact hn' x (by rw [tb_s_tb ks hk10]; simpa using hxk) h
  have h0 := loop ks.length ks [] qs [] rfl hql (by simp) (by simp) (fun q hq => by cases hq)
  exact h0
end

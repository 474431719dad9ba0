/-! ===== crossings: the same answers ===== -/
def cx_v (g : gd_T) (a b : Nat) (c : Int32) : Int32 := if c = 0 then nI a else if c = 1 then nI b else if c = 2 then (fp (fr_n (cx_X g a b) (cx_w g a b), fr_d (cx_X g a b) (cx_w g a b)) 0).toInt32 else if c = 3 then (fp (fr_n (cx_X g a b) (cx_w g a b), fr_d (cx_X g a b) (cx_w g a b)) 1).toInt32 else if c = 4 then (fp (fr_n (cx_Y g a b) (cx_w g a b), fr_d (cx_Y g a b) (cx_w g a b)) 0).toInt32 else (fp (fr_n (cx_Y g a b) (cx_w g a b), fr_d (cx_Y g a b) (cx_w g a b)) 1).toInt32
noncomputable def cx_c (g : gd_T) (S k : Nat) (c : Int32) : Int32 := match (cx_l g S)[k]? with
  | none => -2
  | some ab => cx_v g ab.1 ab.2 c
noncomputable def cx_n (g : gd_T) (o : Option Nat) : Int32 := match o with
  | none => -1
  | some S => nI (cx_l g S).length
noncomputable def cx_o (g : gd_T) (B k : Nat) (c : Int32) : Int32 := match sb g B with
  | none => -3
  | some S => cx_c g S k c
theorem cx_fr {σ x s r W : Int} (hσ : σ = 1 ∨ σ = -1) (hW : W ≠ 0) : fr_n (x * (σ * W) + σ * s * r) (σ * W) = fr_n (x * W + s * r) W ∧ fr_d (x * (σ * W) + σ * s * r) (σ * W) = fr_d (x * W + s * r) W := by
  refine fr_eq (Int.mul_ne_zero (by omega) hW) hW ?_
  grind
theorem cx_get {g : gd_T} {S m k : Nat} {ab : Nat × Nat} (hS : S < 2 ^ m) (h : (cx_l g S)[k]? = some ab) : k < 90 ∧ ab.1 < m ∧ ab.2 < m ∧ cx_x g ab.1 ab.2 ∧ cx_w g ab.1 ab.2 ≠ 0 := by
  have h1 : k < (cx_l g S).length := by
    rcases Nat.lt_or_ge k (cx_l g S).length with q | q
    · exact q
    · rw [List.getElem?_eq_none q] at h; cases h
  have h2 := cx_l_len g S
  obtain ⟨a, b, c⟩ := cx_a_mem 10 0 ab (List.mem_of_getElem? h)
  refine ⟨by omega, cx_tb hS a, cx_tb hS b, c, ?_⟩
  have := c.1
  unfold cx_i at this
  omega
section
variable {K : jj_K} {w : wo_T}
theorem cf_48 {u u2 : wo_T} {L : List Nat} (h : cf w L u) (hf : wo_fr [48] [48] u u2) : cf w L u2 := by
  have n1 : ∀ b, b ≠ 48 → u2.1 b = u.1 b := fun b hb => hf.1 b (by simpa using hb)
  have n2 : ∀ b, b ≠ 48 → u2.2 b = u.2 b := fun b hb => hf.2 b (by simpa using hb)
  refine ⟨cq_tr h.1 ⟨wo_fr_up hf (fun b hb => by simp at hb; rw [hb]; decide) (fun b hb => by simp at hb; rw [hb]; decide), fun j _ => by rw [n1 0 (by decide)]⟩, by rw [n1 0 (by decide)]; exact h.2.1, ?_⟩
  obtain ⟨s1, s2, s3, s4⟩ := h.2.2
  refine ⟨bk_L_fr (w := u) (by rw [n1 23 (by decide)]) (n1 24 (by decide)) (n2 25 (by decide)) (n2 26 (by decide)) s1, s2, ?_, fun T hT e => ?_⟩
  · unfold bn_c
    rw [n1 23 (by decide)]
    exact s3
  · rw [n1 23 (by decide)] at e
    obtain ⟨p, q, a1, a2, a3, a4, a5⟩ := s4 T hT e
    exact ⟨p, q, a1, a2, a3, by rw [n2 23 (by decide)]; exact a4, fun k hk => by rw [n2 27 (by decide)]; exact a5 k hk⟩
theorem c_crossings {P : Int32 → wo_T → Prop} (h : ci w) (k : ∀ u, cq w u → ci u → P (cx_n (gc_g w) (sb (gc_g w) (cb w))) u) : jj_Ci K mX6_crossings [.ref 0] w P := by
  have hm := gc_m h.1
  obtain ⟨e1, e2⟩ := ev_lt hm
  apply en_X6_crossings
  refine c_bestNow h (fun u v L hf hv => ?_)
  rcases hv with ⟨ev, hn⟩ | ⟨i, S, ev, hi, hs⟩
  · rw [ev]
    have := k u hf.1 (cf_ci h hf)
    rw [hn] at this
    exact ⟨fun q => absurd q nn_neg1, fun _ => this⟩
  · subst ev
    obtain ⟨i1, i2⟩ := ci_ix h.1.1 hf.2.2.1 hi
    obtain ⟨hbr, hSm, -⟩ := sb_brs hs
    have hg := cq_g hf.1
    rw [nI_clamp (n := i) (by omega), i2]
    refine ⟨fun _ => ⟨nn_inn i1 (by decide), c_pass (cq_ok hf.1 h.1) (by rw [hg]; exact hSm) (-1) (fun u2 r hfr hp => ?_)⟩, fun q => absurd (nI_pos' (by omega)) q⟩
    have hf2 := cf_48 hf hfr
    have := k u2 hf2.1 (cf_ci h hf2)
    rw [hs] at this
    rw [hg] at hp
    have hlen := cx_l_len (gc_g w) S
    rcases hp with ⟨j, ab, h1, h2, -, -⟩ | ⟨-, h2⟩
    · exfalso
      have hj := (cx_get hSm h1).1
      exact eb_ne (S := 0 + j) (by omega) h2.symm
    · rw [h2, Nat.zero_add]
      exact this
theorem c_cross {P : Int32 → wo_T → Prop} (h : ci w) {k j : Nat} (hk : k < 2147483648) (hj : j < 6) (kk : ∀ u, cq w u → ci u → P (cx_o (gc_g w) (cb w) k (nI j)) u) : jj_Ci K mX6_cross [.ref 0, .int (nI k), .int (nI j)] w P := by
  have hm := gc_m h.1
  obtain ⟨e1, e2⟩ := ev_lt hm
  have hin : ∀ j, j < 6 → isIn (nI j) 0 5 = true := by decide +kernel
  apply en_X6_cross
  refine ⟨fun q => absurd q (nI_pos hk), fun _ => c_isWithin (nI j) 0 5 ?_⟩
  rw [hin j hj]
  refine ⟨fun _ => c_frame h (fun u L hf => ?_), fun q => absurd q (by decide)⟩
  have hg := cq_g hf.1
  have hk0 := kk u hf.1 (cf_ci h hf)
  unfold cx_o at hk0 kk
  cases hs : sb (gc_g w) (cb w) with
  | none =>
    rw [hs] at hk0
    exact ⟨fun q => absurd q (show ¬ (0 : Int32) ≤ -3 by decide), fun _ => hk0⟩
  | some S =>
    obtain ⟨hbr, hSm, -⟩ := sb_brs hs
    have eS : fo (some S) = nI S := rfl
    rw [eS]
    refine ⟨fun _ => c_pass (cq_ok hf.1 h.1) (by rw [hg]; exact hSm) (nI k) (fun u2 r hfr hp => ?_), fun q => absurd (nI_pos' (by omega)) q⟩
    have hf2 := cf_48 hf hfr
    have kk2 := kk u2 hf2.1 (cf_ci h hf2)
    rw [hs] at kk2
    rw [hg] at hp
    have hlen := cx_l_len (gc_g w) S
    have hok := h.1.1
    clear hk0 kk
    generalize gc_g w = g at *
    simp only [cx_c] at kk2
    rcases hp with ⟨i, ab, h1, h2, h3, h48⟩ | ⟨h1, h2⟩
    · obtain ⟨i90, ha, hb, hx, hw0⟩ := cx_get hSm h1
      have ek : k = i := by
        have := (nI_eq hk (by omega)).mp h2
        omega
      subst ek
      obtain ⟨⟨m1, -, -⟩, ⟨m4, m5⟩, -⟩ := cx_bd hok ha hb
      obtain ⟨c0, c1, c4, c2, c3⟩ := h48
      rw [h1] at kk2
      simp only at kk2
      rw [h3, c0, c1, c2, c3, c4]
      refine ⟨fun _ => ?_, fun q => absurd (nI_lt (by omega) (by omega)) q⟩
      unfold cx_v at kk2
      have hq : ∀ a b : Nat, a < 6 → b < 6 → (nI a = nI b ↔ a = b) := fun a b ha hb => nI_eq (by omega) (by omega)
      have d0 : nI j = 0 ↔ j = 0 := hq j 0 hj (by decide)
      have d1 : nI j = 1 ↔ j = 1 := hq j 1 hj (by decide)
      have d2 : nI j = 2 ↔ j = 2 := hq j 2 hj (by decide)
      have d3 : nI j = 3 ↔ j = 3 := hq j 3 hj (by decide)
      have d4 : nI j = 4 ↔ j = 4 := hq j 4 hj (by decide)
      simp only [d0, d1, d2, d3, d4] at kk2 ⊢
      refine ⟨fun e => ?_, fun e => ?_, fun e => c_lowest (nn_L_ab (by omega)) (nn_L_ab (by omega)) hw0 0 ?_, fun e => c_lowest (nn_L_ab (by omega)) (nn_L_ab (by omega)) hw0 1 ?_, fun e => c_lowest (nn_L_ab (by omega)) (nn_L_ab (by omega)) hw0 0 ?_, fun f0 f1 f2 f3 f4 => c_lowest (nn_L_ab (by omega)) (nn_L_ab (by omega)) hw0 1 ?_⟩
      · rw [if_pos e] at kk2; exact kk2
      · rw [if_neg (by omega), if_pos e] at kk2; exact kk2
      · rw [if_neg (by omega), if_neg (by omega), if_pos e] at kk2; exact kk2
      · rw [if_neg (by omega), if_neg (by omega), if_neg (by omega), if_pos e] at kk2; exact kk2
      · rw [if_neg (by omega), if_neg (by omega), if_neg (by omega), if_neg (by omega), if_pos e] at kk2; exact kk2
      · rw [if_neg f0, if_neg f1, if_neg f2, if_neg f3, if_neg f4] at kk2; exact kk2
    · have hle : (cx_l g S).length ≤ k := by
        rcases Nat.lt_or_ge k (cx_l g S).length with q | q
        · exact absurd (by rw [Nat.zero_add]) (h1 k q)
        · exact q
      rw [List.getElem?_eq_none hle] at kk2
      rw [h2]
      refine ⟨fun q => ?_, fun _ => kk2⟩
      have := (nI_ltI hk (by omega)).mp q
      omega
theorem m_crossings {P : Int32 → wo_T → Prop} (h : mi w) (k : ∀ u, mq w u → mi u → P (cx_n (gm_g w) (sb (gm_g w) (mb w))) u) : jj_Ci K mX7_crossings [.ref 58] w P := by
  obtain ⟨e1, e2⟩ := ev_lt (gm_m h.1)
  apply en_X7_crossings
  rw [h.2.1.1]
  refine m_best h h.2.1.2 (fun u hq hu hT => ?_)
  cases hs : sb (gm_g w) (mb w) with
  | none =>
    have := k u hq hu
    rw [hs] at this
    apply vc_X7_crossings_11
    exact ⟨fun _ => ⟨fun q => absurd rfl q, fun _ => this⟩, fun q => absurd rfl q⟩
  | some S =>
    obtain ⟨hbr, hSm, -⟩ := sb_brs hs
    have hlen := cx_l_len (gm_g w) S
    have hne : ¬ nI S = -1 := eb_ne (by omega)
    have loop : ∀ d n z, n + d = (cx_l (gm_g w) S).length → mx u z → jj_J K mX7_crossings (jj_Ri P) 11 [(0, .ref 58), (1, .int (nI S)), (2, .int (nI n))] [] z := by
      intro d
      induction d with
      | zero =>
        intro n z hn hz
        apply vc_X7_crossings_11
        refine ⟨fun q => absurd q hne, fun _ => m_crossing (mx_mi hu hz).1 (by rw [mx_g hz, mq_g hq]; exact hSm) (by omega) (fun v r hv hr => ?_)⟩
        have kk := k v (mq_tr hq (mx_mq (mx_tr hz hv))) (mx_mi hu (mx_tr hz hv))
        rw [hs] at kk
        simp only [cx_n] at kk
        rw [← hn] at kk
        rw [mx_g hz, mq_g hq] at hr
        rcases hr with ⟨i, ab, h1, h2, -⟩ | ⟨-, h2⟩
        · exfalso
          rw [List.getElem?_eq_none (by omega)] at h1; cases h1
        · exact ⟨fun _ => ⟨fun _ => kk, fun q => absurd q hne⟩, fun q => absurd h2 q⟩
      | succ d ih =>
        intro n z hn hz
        apply vc_X7_crossings_11
        refine ⟨fun q => absurd q hne, fun _ => m_crossing (mx_mi hu hz).1 (by rw [mx_g hz, mq_g hq]; exact hSm) (by omega) (fun v r hv hr => ?_)⟩
        rw [mx_g hz, mq_g hq] at hr
        rcases hr with ⟨i, ab, h1, h2, h3⟩ | ⟨h2, -⟩
        · obtain ⟨-, ha, hb, -⟩ := cx_get hSm h1
          have hm := gm_m h.1
          refine ⟨fun q => ?_, fun _ => ?_⟩
          · exfalso
            rw [h3] at q
            exact eb_ne (by omega) q
          · rw [nn_ad1]
            exact ih (n + 1) v (by omega) (mx_tr hz hv)
        · exfalso
          omega
    exact loop (cx_l (gm_g w) S).length 0 u (by omega) (mx_rf u)
theorem m_crossOf {P : Int32 → wo_T → Prop} (h : mi w) {S : Nat} (hs : sb (gm_g w) (mb w) = some S) {k j : Nat} (hk : k < 2147483648) (hj : j < 6) (kk : ∀ u, mq w u → mi u → P (cx_c (gm_g w) S k (nI j)) u) : jj_Ci K mX7_crossOf [.ref 58, .int (nI k), .int (nI j)] w P := by
  have hm := gm_m h.1
  obtain ⟨e1, e2⟩ := ev_lt hm
  obtain ⟨hbr, hSm, -⟩ := sb_brs hs
  have hlen := cx_l_len (gm_g w) S
  apply en_X7_crossOf
  rw [h.2.1.1]
  refine m_best h h.2.1.2 (fun u hq hu hT => ?_)
  rw [hs]
  refine m_crossing hu.1 (by rw [mq_g hq]; exact hSm) hk (fun v r hv hr => ?_)
  rw [mq_g hq] at hr
  unfold cx_c at kk
  rcases hr with ⟨i, ab, h1, h2, h3⟩ | ⟨h2, h3⟩
  · obtain ⟨i90, ha, hb, hx, hw0⟩ := cx_get hSm h1
    have ek : k = i := by omega
    subst ek
    rw [h1] at kk
    simp only at kk
    refine ⟨fun _ x ex y ey => ?_, fun q => ?_⟩
    · have d16 : nI (16 * ab.1 + ab.2) / 16 = nI ab.1 := by
        have := pk_div (a := 16 * ab.1 + ab.2) (d := 16) (by omega) (by decide) (by decide)
        rw [show (16 * ab.1 + ab.2) / 16 = ab.1 by omega] at this
        exact this
      have r16 : nI (16 * ab.1 + ab.2) - nI (16 * ab.1 + ab.2) / 16 * 16 = nI ab.2 := by
        have := pk_rem (a := 16 * ab.1 + ab.2) (d := 16) (by omega) (by decide) (by decide)
        rw [show (16 * ab.1 + ab.2) % 16 = ab.2 by omega] at this
        exact this
      rw [h3, d16] at ex
      rw [h3, r16] at ey
      subst ex; subst ey
      have gv : gm_g v = gm_g w := (mx_g hv).trans (mq_g hq)
      have hok := h.1.1
      refine m_isCross (g := gm_g w) hok gv ha hb (fun _ z hz h16 => ?_) (fun q => absurd hx q)
      have hqz : mq w z := mq_tr hq (mx_mq (mx_tr hv hz))
      have kk2 := kk z hqz (mx_mi hu (mx_tr hv hz))
      have gz : gm_g z = gm_g w := mq_g hqz
      obtain ⟨⟨m1, m2, -⟩, ⟨m4, m5⟩, ⟨q1, q2, -, -⟩, ⟨q7, q8⟩, -⟩ := cx_bd hok ha hb
      obtain ⟨σ, hσ, z16, z14⟩ := h16
      have la := gd_les_gre ab.1 (by omega)
      obtain ⟨fx1, fx2⟩ := cx_fr (x := (gm_g w).2.1 (gd_les ab.1)) (s := cx_s (gm_g w) ab.1 ab.2) (r := gd_run (gm_g w) ab.1 0) hσ hw0
      obtain ⟨fy1, fy2⟩ := cx_fr (x := (gm_g w).2.2.1 (gd_les ab.1)) (s := cx_s (gm_g w) ab.1 ab.2) (r := gd_run (gm_g w) ab.1 1) hσ hw0
      have x59 : z.1 59 (gd_les ab.1) = nn_i ((gm_g w).2.1 (gd_les ab.1)) := by
        rw [← gz]; exact nn_i_of _
      have x60 : z.1 60 (gd_les ab.1) = nn_i ((gm_g w).2.2.1 (gd_les ab.1)) := by
        rw [← gz]; exact nn_i_of _
      have ab1 : (σ * cx_w (gm_g w) ab.1 ab.2).natAbs ≤ 1 * 32 := cx_mul (by omega) m1
      have ab2 : (σ * cx_s (gm_g w) ab.1 ab.2).natAbs ≤ 1 * 32 := cx_mul (by omega) m2
      have ab3 := cx_mul q7 ab1
      have ab4 := cx_mul q8 ab1
      have ab5 := cx_mul ab2 q1
      have ab6 := cx_mul ab2 q2
      have hσw : σ * cx_w (gm_g w) ab.1 ab.2 ≠ 0 := Int.mul_ne_zero (by omega) hw0
      have par := nn_par (a := j) (by omega)
      unfold cx_v at kk2
      unfold cx_X cx_Y at kk2
      have hq' : ∀ a b : Nat, a < 6 → b < 6 → (nI a = nI b ↔ a = b) := fun a b ha hb => nI_eq (by omega) (by omega)
      have d0 : nI j = 0 ↔ j = 0 := hq' j 0 hj (by decide)
      have d1 : nI j = 1 ↔ j = 1 := hq' j 1 hj (by decide)
      have d2 : nI j = 2 ↔ j = 2 := hq' j 2 hj (by decide)
      have d3 : nI j = 3 ↔ j = 3 := hq' j 3 hj (by decide)
      have d4 : nI j = 4 ↔ j = 4 := hq' j 4 hj (by decide)
      have f2 : 2 ≤ nI j ↔ 2 ≤ j := nI_leI (a := 2) (by omega) (by omega)
      have f4 : 4 ≤ nI j ↔ 4 ≤ j := nI_leI (a := 4) (by omega) (by omega)
      simp only [d0, d1, d2, d3, d4] at kk2
      rw [f2, f4, d0, par]
      refine ⟨fun g2 => ⟨fun g4 => m_lesser (by omega) ⟨nn_inn (by omega) (by decide), fun x ex => ⟨fun _ => ?_, fun q => absurd g4 q⟩⟩, fun g4 => m_lesser (by omega) ⟨nn_inn (by omega) (by decide), fun x ex => ⟨fun q => absurd q g4, fun _ => ?_⟩⟩⟩, fun g2 => ⟨fun g0 => ?_, fun g0 => ?_⟩⟩
      · refine m_far (j := ab.1) (ax := 1) (by omega) (by decide) ?_
        rw [nI_clamp (by omega), x60] at ex
        rw [ex, z16, z14, gz, nn_i_mul, nn_i_mul, nn_i_add, nn_i_l (nn_I_ab (by omega)), nn_i_l (nn_I_ab (by omega))]
        refine m_partOf (nn_L_ab (by omega)) (nn_L_ab (by omega)) hσw (nI (j % 2)) ?_
        rw [fy1, fy2]
        rcases (show j = 4 ∨ j = 5 by omega) with e | e
        · subst e; exact kk2
        · subst e; exact kk2
      · refine m_far (j := ab.1) (ax := 0) (by omega) (by decide) ?_
        rw [nI_clamp (by omega), x59] at ex
        rw [ex, z16, z14, gz, nn_i_mul, nn_i_mul, nn_i_add, nn_i_l (nn_I_ab (by omega)), nn_i_l (nn_I_ab (by omega))]
        refine m_partOf (nn_L_ab (by omega)) (nn_L_ab (by omega)) hσw (nI (j % 2)) ?_
        rw [fx1, fx2]
        rcases (show j = 2 ∨ j = 3 by omega) with e | e
        · subst e; exact kk2
        · subst e; exact kk2
      · rw [if_neg g0, if_pos (by omega)] at kk2; exact kk2
      · rw [if_pos g0] at kk2; exact kk2
    · exfalso
      rw [h3] at q
      exact eb_ne (by omega) q
  · have kk2 := kk v (mq_tr hq (mx_mq hv)) (mx_mi hu hv)
    rw [List.getElem?_eq_none (by omega)] at kk2
    exact ⟨fun q => absurd h3 q, fun _ => kk2⟩
theorem s_cross (h : iv w) (a b : Int32) : e_i K mX6_cross mX7_cross [.ref 0, .int a, .int b] [.ref 58, .int a, .int b] w := by
  rcases Classical.em (a < 0) with ha | ha
  · apply en_X6_cross
    refine ⟨fun _ => ?_, fun q => absurd ha q⟩
    apply en_X7_cross
    exact ⟨fun _ => ⟨rfl, h⟩, fun q => absurd ha q⟩
  · obtain ⟨k, hk, ek⟩ := nn_nat ha
    cases hb : isIn b 0 5 with
    | false =>
      apply en_X6_cross
      refine ⟨fun q => absurd q ha, fun _ => c_isWithin b 0 5 ?_⟩
      rw [hb]
      refine ⟨fun q => absurd rfl q, fun _ => ?_⟩
      apply en_X7_cross
      refine ⟨fun q => absurd q ha, fun _ => m_isIn b 0 5 ?_⟩
      rw [hb]
      exact ⟨fun q => absurd rfl q, fun _ => ⟨rfl, h⟩⟩
    | true =>
      have ez : (5 : Int32) = nI 6 - 1 := by decide
      obtain ⟨j, hj, ej⟩ := isIn_nat (n := 6) (by decide) (by rw [← ez]; exact hb)
      subst ej; subst ek
      refine c_cross h.1 hk hj (fun u hq hu => ?_)
      obtain ⟨hi, e1, e2, -⟩ := iv_c_g h hq hu
      apply en_X7_cross
      refine ⟨fun q => absurd q ha, fun _ => m_isIn (nI j) 0 5 ?_⟩
      rw [hb]
      refine ⟨fun _ => ?_, fun q => absurd q (by decide)⟩
      rw [hi.2.1.2.1.1]
      refine m_best hi.2.1 hi.2.1.2.1.2 (fun u2 hq2 hu2 hT => ?_)
      rw [e1, e2]
      obtain ⟨z1, z2⟩ := ev_lt (iv_m10 h)
      cases hs : sb (gc_g w) (cb w) with
      | none =>
        refine ⟨fun q => absurd rfl q, fun _ => ⟨?_, iv_m hi hq2 hu2⟩⟩
        unfold cx_o
        rw [hs]
      | some S =>
        obtain ⟨hbr, hSm, -⟩ := sb_brs hs
        refine ⟨fun _ => ?_, fun q => absurd q (eb_ne (S := S) (by omega))⟩
        refine m_crossOf hu2 (by rw [mq_g hq2, mq_b hq2, e1, e2]; exact hs) hk hj (fun u3 hq3 hu3 => ⟨?_, iv_m hi (mq_tr hq2 hq3) hu3⟩)
        rw [mq_g hq2, e1]
        unfold cx_o
        rw [hs]
end

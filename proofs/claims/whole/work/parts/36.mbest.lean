/-! ===== the model: volumes, the table, the least ===== -/
theorem mv_sum (f : Nat → Int) : ∀ (cs : List Nat) (f : Nat → Int) (n : Nat), cs.Nodup → (∀ c, c ∈ cs → c < n) → (∀ c, c ∉ cs → f c = 0) → gd_s (fun i => f (rr_p cs i)) cs.length = gd_s f n
  | [], f, n, _, _, h0 => (gd_s_z n (fun k _ => h0 k (by simp))).symm
  | c :: cs, f, n, hd, hl, h0 => by
    obtain ⟨h1, h2⟩ := List.nodup_cons.mp hd
    have ih := mv_sum f cs (fun k => if k = c then 0 else f k) n h2 (fun x hx => hl x (List.mem_cons_of_mem _ hx)) (fun x hx => by
      by_cases e : x = c
      · simp [e]
      · simp only [e, if_false]
        exact h0 x (fun q => (List.mem_cons.mp q).elim e hx))
    rw [gd_s_pick (k := c) n (hl c List.mem_cons_self), ← ih]
    show gd_s (fun i => f (rr_p (c :: cs) i)) cs.length + f (rr_p (c :: cs) cs.length) = _
    rw [rr_p_eq, Int.add_comm]
    congr 1
    refine gd_s_congr _ (fun i hi => ?_)
    have hne : ¬ rr_p cs i = c := fun q => h1 (by rw [← q]; exact rr_p_mem hi)
    rw [rr_p_lt _ _ hi, if_neg hne]
section
variable {g : gd_T} {B : Nat} {ws cs : List Nat}
theorem mv_x (hok : gd_ok g) (hB : B < 2 ^ gd_m g) (hK : ff_K g B ws cs) (hall : ∀ k, B.testBit k = true → k ∈ cs) {i : Nat} (hi : i < ws.length) {R : Nat → Int} (hR : rr_R g B ws cs i R) {p0 : Int} {q0 : Nat → Int} (hs : gd_sol g B p0 q0) :
    ∃ x : Int, 0 ≤ x ∧ x < 67108864 ∧ ((R (gd_m g)).natAbs : Int) * ((ff_p g B cs ws).natAbs : Int) = ((R (rr_p cs i)).natAbs : Int) * x ∧ x * (p0.natAbs : Int) = ((ff_p g B cs ws).natAbs : Int) * ((q0 (rr_p cs i)).natAbs : Int) := by
  have hm := gd_m_le hok
  obtain ⟨i1, i2, i3, i4⟩ := ff_K_p hK
  obtain ⟨X, s, t, hs1, ht, hV, h0, hXp, hb, hXt⟩ := rr_X hok hK hi hR
  have hpm := i3 _ (rr_p_mem (cs := cs) (i := i) (by omega))
  obtain ⟨r1, r2, r3, r4, r5⟩ := hR
  have e1 : ((R (gd_m g)).natAbs : Int) * ((ff_p g B cs ws).natAbs : Int) = ((R (rr_p cs i)).natAbs : Int) * ((X (gd_m g)).natAbs : Int) := by
    have a1 : (X (rr_p cs i)).natAbs = (ff_p g B cs ws).natAbs := by
      rw [hXp]
      rcases hs1 with rfl | rfl <;> simp
    rw [← a1, hXt (gd_m g), hXt (rr_p cs i), Int.natAbs_mul, Int.natAbs_mul]
    push_cast
    grind
  have d0 := r1 (ff_x g p0 q0) (fun u hu => by rw [ff_dot hok hB p0 q0 hs.1 u, hs.2 u (i4 u hu)]; omega)
  have d1 : R (rr_p cs i) * q0 (rr_p cs i) = p0 * R (gd_m g) := by
    rw [gd_d_s, gd_s_pick (k := gd_m g) 11 (by omega), gd_s_pick (k := rr_p cs i) 11 (by omega), gd_s_z 11 (fun c _ => ?_)] at d0
    · have x1 : ff_x g p0 q0 (gd_m g) = -p0 := by simp [ff_x]
      have x2 : ff_x g p0 q0 (rr_p cs i) = q0 (rr_p cs i) := by unfold ff_x; rw [if_neg (by omega)]
      rw [if_neg (by omega), x1, x2] at d0
      grind
    · by_cases ec : c = rr_p cs i
      · simp [ec]
      · rw [if_neg ec]
        by_cases em : c = gd_m g
        · simp [em]
        · rw [if_neg em]
          rcases Classical.em (c ∈ cs) with hc | hc
          · rw [r2 c hc ec]; simp
          · have : ff_x g p0 q0 c = 0 := by
              unfold ff_x
              rw [if_neg em]
              rcases Classical.em (q0 c = 0) with z2 | z2
              · exact z2
              · exact absurd (hall c (hs.1 c z2)) hc
            rw [this, Int.mul_zero]
  have d2 : ((R (rr_p cs i)).natAbs : Int) * ((q0 (rr_p cs i)).natAbs : Int) = (p0.natAbs : Int) * ((R (gd_m g)).natAbs : Int) := by
    have := congrArg Int.natAbs d1
    rw [Int.natAbs_mul, Int.natAbs_mul] at this
    exact_mod_cast this
  have hbm := hb (gd_m g)
  refine ⟨((X (gd_m g)).natAbs : Int), by omega, by omega, e1, ?_⟩
  have hR0 : ((R (rr_p cs i)).natAbs : Int) ≠ 0 := by omega
  apply Int.eq_of_mul_eq_mul_left hR0
  generalize ((R (rr_p cs i)).natAbs : Int) = Rp at *
  generalize ((R (gd_m g)).natAbs : Int) = Rm at *
  generalize ((ff_p g B cs ws).natAbs : Int) = D at *
  generalize ((X (gd_m g)).natAbs : Int) = x at *
  generalize ((q0 (rr_p cs i)).natAbs : Int) = q at *
  generalize (p0.natAbs : Int) = p at *
  have z1 : Rp * (x * p) = (Rp * x) * p := by grind
  have z2 : Rp * (D * q) = D * (Rp * q) := by grind
  rw [z1, z2, ← e1, d2]; grind
end
/-- a sum in lowest terms stays small -/
theorem mv_low {a b M D x Rm Rp q : Int} (hD : 0 < D) (hRp : 0 < Rp) (hb : 0 < b) (e : a * D = b * M) (ex : Rm * D = Rp * x) : fr_n (a * Rp + b * Rm * q) (b * Rp) * D = fr_d (a * Rp + b * Rm * q) (b * Rp) * (M + q * x) := by
  have hu : b * Rp ≠ 0 := Int.mul_ne_zero (by omega) (by omega)
  obtain ⟨s1, s2, s3, -⟩ := fr_spec (a := a * Rp + b * Rm * q) hu
  apply Int.eq_of_mul_eq_mul_left hu
  generalize fr_n (a * Rp + b * Rm * q) (b * Rp) = n at *
  generalize fr_d (a * Rp + b * Rm * q) (b * Rp) = d at *
  have z1 : b * Rp * (n * D) = (n * (b * Rp)) * D := by grind
  have z2 : b * Rp * (d * (M + q * x)) = d * (Rp * (b * M) + b * q * (Rp * x)) := by grind
  rw [z1, ← s3, z2, ← e, ← ex]; grind
theorem mv_bd {a b M D : Int} (hD : 0 < D) (hb : 0 < b) (hg : Int.gcd a b = 1) (hM : 0 ≤ M) (e : a * D = b * M) : 0 ≤ a ∧ a ≤ M ∧ b ≤ D := by
  have hdv : b ∣ D := fr_dvd (d := b) (n := a) (m := D) ⟨M, e⟩ (by rw [Int.gcd_comm]; exact hg)
  have hbD := Int.le_of_dvd hD hdv
  have h0 : 0 ≤ a * D := by rw [e]; exact Int.mul_nonneg (by omega) hM
  have ha : 0 ≤ a := by
    rcases Int.lt_or_le a 0 with h | h
    · have := Int.mul_neg_of_neg_of_pos h hD
      omega
    · exact h
  refine ⟨ha, ?_, hbD⟩
  have h2 : a * D ≤ M * D := by
    rw [e, Int.mul_comm M]
    exact Int.mul_le_mul_of_nonneg_right hbD hM
  exact Int.le_of_mul_le_mul_right h2 hD
section
variable {K : jj_K} {w : wo_T} {B : Nat} {ws cs : List Nat}
theorem m_volumes {P : wo_T → Prop} (h : gm_ok w) (hB : B < 2 ^ gd_m (gm_g w)) (hK : ff_K (gm_g w) B ws cs) (hS : rs_S (gm_g w) B w ws cs) (he : ws.length = gd_pop B 10) {p0 : Int} {q0 : Nat → Int} (hp0 : p0 ≠ 0) (hs : gd_sol (gm_g w) B p0 q0)
    (k : ∀ a b, gd_vol (gm_g w) B a b → Int.gcd a b = 1 → 0 ≤ a → a < 17179869184 → 0 < b → b < 67108864 → P (wo_l (wo_l w 67 B (nn_l a)) 68 B (nn_l b))) : jj_Cv K mX7_volumes [.ref 58, .int (nI B)] w P := by
  have hok := h.1
  have hm := gm_m h
  have h7 := ff_7 hok hK
  obtain ⟨i1, i2, i3, i4⟩ := ff_K_p hK
  have hB2 : B < 1024 := Nat.lt_of_lt_of_le hB (by
    have : (2 : Nat) ^ gd_m (gm_g w) ≤ 2 ^ 10 := Nat.pow_le_pow_right (by decide) hm
    omega)
  have hall : ∀ k, B.testBit k = true → k ∈ cs := fun k hk => mb_all hok hK he hB hk
  have hDb := ff_all7 hok B cs ws i4 h7
  have hD : 0 < ((ff_p (gm_g w) B cs ws).natAbs : Int) := by omega
  apply en_X7_volumes
  have loop : ∀ d t a b M, t + d = ws.length → 0 < b → Int.gcd a b = 1 → 0 ≤ M → M ≤ (t : Int) * 2147483648 → a * ((ff_p (gm_g w) B cs ws).natAbs : Int) = b * M → M * (p0.natAbs : Int) = ((ff_p (gm_g w) B cs ws).natAbs : Int) * gd_s (fun i => gd_quad (gm_g w) (rr_p cs i) * ((q0 (rr_p cs i)).natAbs : Int)) t → jj_J K mX7_volumes (jj_Rv P) 8 [(0, .ref 58), (1, .int (nI B)), (2, .long (nn_l a)), (4, .long (nn_l b)), (6, .int (nI t))] [] w := by
    intro d
    induction d with
    | zero =>
      intro t a b M ht hb hg hM hM2 e1 e2
      have et : t = ws.length := by omega
      have bd := mv_bd hD hb hg hM e1
      apply vc_X7_volumes_8
      rw [hS.1, nI_clamp (by omega)]
      refine ⟨fun _ => ⟨nn_inn hB2 (by decide), nn_inn hB2 (by decide), k a b ⟨hb, p0, q0, hp0, hs, ?_⟩ hg bd.1 (by omega) hb (by omega)⟩, fun q => absurd (nI_le (by omega) (by omega)) q⟩
      have hv : gd_s (fun i => gd_quad (gm_g w) (rr_p cs i) * ((q0 (rr_p cs i)).natAbs : Int)) t = gd_v (gm_g w) q0 := by
        rw [et, ← i2]
        exact mv_sum (fun _ => 0) cs (fun k => gd_quad (gm_g w) k * ((q0 k).natAbs : Int)) 10 (ff_nd hK) (fun c hc => by have := i3 c hc; omega) (fun c hc => by
          have : q0 c = 0 := by
            rcases Classical.em (q0 c = 0) with z | z
            · exact z
            · exact absurd (hall c (hs.1 c z)) hc
          rw [this]; simp)
      rw [hv] at e2
      apply Int.eq_of_mul_eq_mul_left (show ((ff_p (gm_g w) B cs ws).natAbs : Int) ≠ 0 by omega)
      generalize ((ff_p (gm_g w) B cs ws).natAbs : Int) = D at *
      have z1 : D * (a * (p0.natAbs : Int)) = (a * D) * (p0.natAbs : Int) := by grind
      have z2 : D * (b * gd_v (gm_g w) q0) = b * (D * gd_v (gm_g w) q0) := by grind
      rw [z1, e1, z2, ← e2]; grind
    | succ d ih =>
      intro t a b M ht hb hg hM hM2 e1 e2
      have ht1 : t < ws.length := by omega
      have bd := mv_bd hD hb hg hM e1
      obtain ⟨hpv, R, hR, hRV⟩ := hS.2 t ht1
      have hpm := i3 _ (rr_p_mem (cs := cs) (i := t) (by omega))
      obtain ⟨x, x0, x1, ex, ey⟩ := mv_x hok hB hK hall ht1 hR hs
      have bRp := rr_bd hok hK ht1 hR (rr_p cs t)
      have bRm := rr_bd hok hK ht1 hR (gd_m (gm_g w))
      have hRp0 := hR.2.2.1
      have hq32 := gd_quad_le hok hpm
      have hq0 := gd_quad_nn (gm_g w) (rr_p cs t)
      apply vc_X7_volumes_8
      have e10 : 11 * nI t + 10 = nI (11 * t + 10) := by rw [nn_el']; exact nI_add _ 10
      rw [hS.1, nI_clamp (n := t) (by omega), hpv, e10, nn_el', nI_add, nI_clamp (n := 11 * t + 10) (by omega), nI_clamp (n := 11 * t + rr_p cs t) (by omega), hRV 10 (by decide), hRV _ (by omega), mw_10, mw_p hm hpm, nn_ad1]
      generalize hRmE : R (gd_m (gm_g w)) = Rm at *
      generalize hRpE : R (rr_p cs t) = Rp at *
      generalize hqE : gd_quad (gm_g w) (rr_p cs t) = Q at *
      have hRpN : 0 < (Rp.natAbs : Int) := by omega
      -- the step, whatever the signs
      have hQx : 0 ≤ Q * x ∧ Q * x ≤ 2147483648 := by
        constructor
        · exact Int.mul_nonneg hq0 x0
        · have z1 : Q * x ≤ 32 * x := Int.mul_le_mul_of_nonneg_right hq32 x0
          omega
      have step : jj_Ci K mX7_quad [.ref 58, .int (nI (rr_p cs t))] w (fun v6 w7 => ∀ x8 : Int64, x8 = (nn_l a * nn_l (Rp.natAbs : Int)) + ((nn_l b * nn_l (Rm.natAbs : Int)) * v6.toInt64) → ∀ x9 : Int64, x9 = nn_l b * nn_l (Rp.natAbs : Int) → (jj_Cl K mX7_partOf [.long x8, .long x9, .int 0] w7 (fun v10 w11 => jj_Cl K mX7_partOf [.long x8, .long x9, .int 1] w11 (fun v12 w13 => jj_J K mX7_volumes (jj_Rv P) 8 [(0, .ref 58), (1, .int (nI B)), (2, .long v10), (4, .long v12), (6, .int (nI (t + 1)))] [] w13)))) := by
        refine m_quad (by omega) (fun x8 e8 x9 e9 => ?_)
        rw [hqE, nn_i_l ⟨by omega, by omega⟩, nn_l_mul, nn_l_mul, nn_l_mul, nn_l_add] at e8
        rw [nn_l_mul] at e9
        subst e8; subst e9
        have m1 := xs_mul (a := a) (b := (Rp.natAbs : Int)) (A := 17179869184) (B := 67108864) (by omega) (by omega) (by omega) (by omega)
        have m2 := xs_mul (a := b) (b := (Rm.natAbs : Int)) (A := 67108864) (B := 67108864) (by omega) (by omega) (by omega) (by omega)
        have m3 := xs_mul (a := b * (Rm.natAbs : Int)) (b := Q) (A := 67108864 * 67108864) (B := 33) (by omega) (by omega) (by omega) (by omega)
        have m4 := xs_mul (a := b) (b := (Rp.natAbs : Int)) (A := 67108864) (B := 67108864) (by omega) (by omega) (by omega) (by omega)
        have L1 : nn_L (a * (Rp.natAbs : Int) + b * (Rm.natAbs : Int) * Q) := by constructor <;> omega
        have L2 : nn_L (b * (Rp.natAbs : Int)) := by constructor <;> omega
        have N2 : b * (Rp.natAbs : Int) ≠ 0 := Int.mul_ne_zero (by omega) (by omega)
        have lo := mv_low (q := Q) hD hRpN hb e1 ex
        obtain ⟨s1, s2, s3, -⟩ := fr_spec (a := a * (Rp.natAbs : Int) + b * (Rm.natAbs : Int) * Q) N2
        refine m_partOf L1 L2 N2 0 (m_partOf L1 L2 N2 1 ?_)
        refine ih (t + 1) _ _ (M + Q * x) (by omega) s1 s2 (by omega) (by push_cast; omega) lo ?_
        show (M + Q * x) * (p0.natAbs : Int) = _ * (gd_s _ t + gd_quad (gm_g w) (rr_p cs t) * ((q0 (rr_p cs t)).natAbs : Int))
        rw [Int.add_mul, e2, Int.mul_add, hqE]
        congr 1
        rw [Int.mul_assoc, ey]; grind
      have bRpL : nn_L Rp := nn_L_of 67108864 (by decide) bRp.1 bRp.2
      have bRmL : nn_L Rm := nn_L_of 67108864 (by decide) bRm.1 bRm.2
      have z0 : nn_L 0 := by constructor <;> decide
      have leP : 0 ≤ nn_l Rp ↔ 0 ≤ Rp := nn_l_le z0 bRpL
      have leM : 0 ≤ nn_l Rm ↔ 0 ≤ Rm := nn_l_le z0 bRmL
      have pP : 0 ≤ Rp → ((Rp.natAbs : Int)) = Rp := fun h => by omega
      have nP : ¬ 0 ≤ Rp → ((Rp.natAbs : Int)) = -Rp := fun h => by omega
      have pM : 0 ≤ Rm → ((Rm.natAbs : Int)) = Rm := fun h => by omega
      have nM : ¬ 0 ≤ Rm → ((Rm.natAbs : Int)) = -Rm := fun h => by omega
      refine ⟨fun q => absurd q (nI_ge ht1 (by omega)), fun _ => ⟨nn_inn (by omega) (by decide), fun x2 f2 => ⟨nn_inn (by omega) (by decide), nn_inn (by omega) (by decide), fun x3 f3 => ?_⟩⟩⟩
      subst f2; subst f3
      rw [leP, leM]
      refine ⟨fun s2 => ⟨fun s3 => ⟨nn_inn (by omega) (by decide), ?_⟩, fun s3 y f => ⟨nn_inn (by omega) (by decide), ?_⟩⟩, fun s2 z fz => ⟨fun s3 => ⟨nn_inn (by omega) (by decide), ?_⟩, fun s3 y f => ⟨nn_inn (by omega) (by decide), ?_⟩⟩⟩
      · rw [pP s3, pM s2] at step; exact step
      · rw [nP s3, pM s2] at step
        rw [nn_l_neg] at f; subst f
        exact step
      · rw [pP s3, nM s2] at step
        rw [nn_l_neg] at fz; subst fz
        exact step
      · rw [nP s3, nM s2] at step
        rw [nn_l_neg] at f fz; subst f; subst fz
        exact step
  exact loop ws.length 0 0 1 0 (by omega) (by decide) (by decide) (by decide) (by decide) (by simp) (by simp [gd_s])
end

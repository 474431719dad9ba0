/-! ===== the same answers: point, the tie ===== -/
theorem up2_e {f : Nat → Int32} {n p : Nat} {x y : Int32} : up (up f (2 * n) x) (2 * n + 1) y (2 * p) = if p = n then x else f (2 * p) := by
  rw [up_ne (by omega)]
  by_cases e : p = n
  · rw [if_pos e, e, up_eq]
  · rw [if_neg e, up_ne (by omega)]
theorem up2_o {f : Nat → Int32} {n p : Nat} {x y : Int32} : up (up f (2 * n) x) (2 * n + 1) y (2 * p + 1) = if p = n then y else f (2 * p + 1) := by
  by_cases e : p = n
  · rw [if_pos e, e, up_eq]
  · rw [if_neg e, up_ne (by omega), up_ne (by omega)]
theorem up2_z {f : Nat → Int32} {n j : Nat} : up (up f (2 * n) 0) (2 * n + 1) 0 j = 0 ∨ (j < 2 * n ∨ 2 * n + 1 < j) ∧ up (up f (2 * n) 0) (2 * n + 1) 0 j = f j := by
  by_cases e : j = 2 * n + 1
  · rw [e, up_eq]; exact Or.inl rfl
  · rw [up_ne e]
    by_cases e2 : j = 2 * n
    · rw [e2, up_eq]; exact Or.inl rfl
    · rw [up_ne e2]; exact Or.inr ⟨by omega, rfl⟩
section
variable {K : jj_K} {w : wo_T}
theorem gc_point {n : Nat} {x y : Int32} {u : wo_T} (h : iv w) (hgn : (gc_g w).1 = n) (hn : n < 5) (hx : 0 ≤ x.toInt ∧ x.toInt ≤ 4) (hy : 0 ≤ y.toInt ∧ y.toInt ≤ 4) (hnt : ¬ tkn w n x y) (hu : c_A (wo_i w 0 8 1) n x y u) : gc_ok u ∧ (gc_g u).1 = n + 1 := by
  obtain ⟨u1, ul, u16, u2, u3, u4, u5, um, us⟩ := hu
  rw [wo_i_ne 2 (by decide)] at u2
  rw [wo_i_ne 3 (by decide)] at u3
  rw [wo_i_ne 4 (by decide)] at u4
  have n1 : (gc_g u).1 = n + 1 := by
    show (u.1 1 6).toInt.toNat = n + 1
    rw [u16, nn_nI_int (by omega)]; omega
  have X : ∀ p, (gc_g u).2.1 p = if p = n then x.toInt else (gc_g w).2.1 p := fun p => by
    show (u.1 2 (2 * p)).toInt = if p = n then x.toInt else (w.1 2 (2 * p)).toInt
    rw [u2, up2_e]
    split <;> rfl
  have Y : ∀ p, (gc_g u).2.2.1 p = if p = n then y.toInt else (gc_g w).2.2.1 p := fun p => by
    show (u.1 2 (2 * p + 1)).toInt = if p = n then y.toInt else (w.1 2 (2 * p + 1)).toInt
    rw [u2, up2_o]
    split <;> rfl
  have nt : ∀ q, q < n → ¬ ((gc_g w).2.1 q = x.toInt ∧ (gc_g w).2.2.1 q = y.toInt) := fun q hq ⟨e1, e2⟩ => hnt ⟨q, hq, by
    have e1' : (w.1 2 (2 * q)).toInt = x.toInt := e1
    rw [h.2.2.2.2.1 q] at e1'
    exact Int32.toInt_inj.mp e1', by
    have e2' : (w.1 2 (2 * q + 1)).toInt = y.toInt := e2
    rw [h.2.2.2.2.2.1 q] at e2'
    exact Int32.toInt_inj.mp e2'⟩
  obtain ⟨⟨o1, o2, o3, o4⟩, a, b, c⟩ := h.1.1
  rw [hgn] at o2 o3 o4
  refine ⟨⟨⟨by rw [n1]; omega, fun p hp => ?_, fun p q hp hq hne => ?_, fun v hv => ?_⟩, by rw [n1]; exact u16, fun p hp => ?_, fun k hk => ?_⟩, n1⟩
  · rw [X, Y]
    by_cases e : p = n
    · rw [if_pos e, if_pos e]; exact ⟨hx.1, hx.2, hy.1, hy.2⟩
    · rw [if_neg e, if_neg e]; exact o2 p (by omega)
  · rw [n1] at hp hq
    rw [X, Y, X, Y]
    by_cases e : p = n
    · have e2 : ¬ q = n := by omega
      rw [if_pos e, if_pos e, if_neg e2, if_neg e2]
      exact fun z => nt q (by omega) ⟨z.1.symm, z.2.symm⟩
    · by_cases e2 : q = n
      · rw [if_neg e, if_neg e, if_pos e2, if_pos e2]
        exact nt p (by omega)
      · rw [if_neg e, if_neg e, if_neg e2, if_neg e2]
        exact o3 p q (by omega) (by omega) hne
  · show -9 ≤ (u.1 4 v).toInt ∧ (u.1 4 v).toInt ≤ 9
    rw [n1] at hv
    rw [u4]
    rcases up2_z (f := w.1 4) (n := n) (j := v) with e | ⟨e1, e⟩
    · rw [e]; decide
    · rw [e]; exact o4 v (by omega)
  · have ee : (gc_g u).2.2.2.1 p = if p = n then 0 else (gc_g w).2.2.2.1 p := by
      show (u.1 3 p).toInt.toNat = if p = n then 0 else (w.1 3 p).toInt.toNat
      rw [u3]
      by_cases e : p = n
      · rw [if_pos e, e, up_eq]; rfl
      · rw [if_neg e, up_ne e]
    rw [ee, u3]
    by_cases e : p = n
    · rw [if_pos e, e, up_eq]; exact ⟨rfl, by decide⟩
    · rw [if_neg e, up_ne e]; exact b p hp
  · have em : gd_m (gc_g u) = (n + 1) * n / 2 := by unfold gd_m; rw [n1, Nat.add_sub_cancel]
    rw [em] at hk
    rcases Nat.lt_or_ge k (n * (n - 1) / 2) with q | q
    · obtain ⟨p1, p2⟩ := gd_pts n (by omega) k q
      have er : ∀ ax, gd_run (gc_g u) k ax = gd_run (gc_g w) k ax := fun ax => by
        unfold gd_run
        rw [X, X, Y, Y, if_neg (show ¬ gd_gre k = n by omega), if_neg (show ¬ gd_les k = n by omega), if_neg (show ¬ gd_gre k = n by omega), if_neg (show ¬ gd_les k = n by omega)]
      have eq : gd_quad (gc_g u) k = gd_quad (gc_g w) k := by unfold gd_quad; rw [er, er]
      obtain ⟨z1, z2, z3⟩ := um k q
      have hk2 : k < gd_m (gc_g w) := by unfold gd_m; rw [hgn]; exact q
      rw [er, er, eq, z1, z2, z3]
      rw [wo_i_ne 6 (by decide), wo_i_ne 7 (by decide)]
      exact c k hk2
    · obtain ⟨z1, z2, z3⟩ := us k q hk
      have r0 : u.1 6 (2 * k) = nn_i (gd_run (gc_g u) k 0) := by
        show u.1 6 (2 * k) = nn_i ((u.1 2 (2 * gd_gre k)).toInt - (u.1 2 (2 * gd_les k)).toInt)
        rw [← nn_i_sub, ← nn_i_of, ← nn_i_of]
        exact z1
      have r1 : u.1 6 (2 * k + 1) = nn_i (gd_run (gc_g u) k 1) := by
        show u.1 6 (2 * k + 1) = nn_i ((u.1 2 (2 * gd_gre k + 1)).toInt - (u.1 2 (2 * gd_les k + 1)).toInt)
        rw [← nn_i_sub, ← nn_i_of, ← nn_i_of]
        exact z2
      refine ⟨r0, r1, ?_⟩
      rw [z3, r0, r1, nn_i_mul, nn_i_mul, nn_i_add]
      rfl
theorem iv_point {n : Nat} {x y : Int32} {u v : wo_T} (h : iv w) (hgn : (gc_g w).1 = n) (hn : n < 5) (hx : 0 ≤ x.toInt ∧ x.toInt ≤ 4) (hy : 0 ≤ y.toInt ∧ y.toInt ≤ 4) (hnt : ¬ tkn w n x y) (hu : c_A (wo_i w 0 8 1) n x y u) (hv : m_A u n x y v) : iv v := by
  obtain ⟨hok, n1⟩ := gc_point h hgn hn hx hy hnt hu
  obtain ⟨u1, ul, u16, u2, u3, u4, u5, um, us⟩ := hu
  obtain ⟨v1, vl, v5, v13, v58, v59, v60, v61, v62, v63⟩ := hv
  have ub : ∀ b, 7 < b → u.1 b = w.1 b := fun b hb => by rw [u1 b (Or.inr hb), wo_i_ne b (by omega)]
  rw [wo_i_ne 2 (by decide)] at u2
  rw [wo_i_ne 3 (by decide)] at u3
  rw [wo_i_ne 4 (by decide)] at u4
  rw [wo_i_ne 5 (by decide)] at u5
  rw [ub 59 (by decide)] at v59
  rw [ub 60 (by decide)] at v60
  rw [ub 61 (by decide)] at v61
  rw [ub 62 (by decide)] at v62
  rw [ub 63 (by decide)] at v63
  have u06 : u.1 0 6 = w.1 0 6 := by rw [u1 0 (Or.inl rfl), wo_i_nk (by decide)]
  have u07 : u.1 0 7 = w.1 0 7 := by rw [u1 0 (Or.inl rfl), wo_i_nk (by decide)]
  have u08 : u.1 0 8 = 1 := by rw [u1 0 (Or.inl rfl), wo_i_eq]
  have u2w : u.2 = w.2 := by rw [ul]; rfl
  obtain ⟨a1, a2, a3, l1, l2, l3, l4, l5, l6, l7, l8, l9⟩ := h
  have mono : 2 ^ gd_m (gc_g w) ≤ 2 ^ gd_m (gc_g u) := Nat.pow_le_pow_right (by decide) (by
    unfold gd_m
    rw [n1, hgn]
    exact gd_m_mono (n + 1) (by omega) n (by omega))
  have hcu : ci u := by
    have hb : cb u = cb w := by unfold cb; rw [u06]
    unfold ci
    rw [hb, u06, u08]
    exact ⟨hok, ⟨a1.2.1.1, Nat.lt_of_lt_of_le a1.2.1.2 mono⟩, fun q => absurd q (by decide)⟩
  have k1 : v.1 1 6 = v.1 58 5 := by rw [v1 1 (by decide), u16, v5]
  have k2 : ∀ p, v.1 2 (2 * p) = v.1 59 p := fun p => by
    rw [v1 2 (by decide), u2, up2_e, v59, l2]; rfl
  have k3 : ∀ p, v.1 2 (2 * p + 1) = v.1 60 p := fun p => by
    rw [v1 2 (by decide), u2, up2_o, v60, l3]; rfl
  have k4 : v.1 3 = v.1 61 := by rw [v1 3 (by decide), u3, v61, l4]
  have k5 : v.1 4 = v.1 62 := by rw [v1 4 (by decide), u4, v62, l5]
  have k6 : v.1 5 = v.1 63 := by rw [v1 5 (by decide), u5, v63, l6]
  have hgv : gm_g v = gc_g v := by
    unfold gm_g gc_g
    simp only [k1, k2, k3, k4, k5]
  have hgu : gc_g v = gc_g u := gc_g_eq (fun b hb => v1 b (by omega))
  have hov : gc_ok v := gc_ok_eq (fun b hb => v1 b (by omega)) hok
  have hmv : mi v := by
    have e6 : v.1 58 6 = w.1 58 6 := by rw [v58 6 (by decide) (by decide), ub 58 (by decide)]
    have hb : mb v = mb w := by unfold mb; rw [e6]
    have hgw : gm_g w = gc_g w := by
      unfold gm_g gc_g
      simp only [l1, l2, l3, l4, l5]
    have hb2 := a2.2.1.2
    rw [hgw] at hb2
    unfold mi
    rw [hb, e6, hgv, hgu]
    refine ⟨⟨by rw [hgv]; exact hov.1, ?_, fun p hp => ?_⟩, ⟨a2.2.1.1, Nat.lt_of_lt_of_le hb2 mono⟩, Or.inl v13⟩
    · rw [← k1, hgv]; exact hov.2.1
    · rw [← k4, hgv]; exact hov.2.2.1 p hp
  refine ⟨ci_fr (w := u) (fun b hb => v1 b (Or.inl hb)) (fun b _ => by rw [vl]) hcu, hmv, fun j => ?_, k1, k2, k3, k4, k5, k6, ?_, ?_, fun s hs => lk_s_eq (w := w) hs (fun b p q => by rw [v1 b (Or.inl q), ub b (by omega)]) (fun b _ _ => by rw [vl, u2w]) (by rw [v1 69 (by decide), ub 69 (by decide)]) (by rw [v1 70 (by decide), ub 70 (by decide)]) (by rw [vl, u2w]) (l9 s hs)⟩
  · show -999 ≤ (v.1 5 j).toInt ∧ (v.1 5 j).toInt ≤ 999
    rw [v1 5 (by decide), u5]
    rcases up2_z (f := w.1 5) (n := n) (j := j) with e | ⟨-, e⟩
    · rw [e]; decide
    · rw [e]; exact a3 j
  · rw [v1 0 (by decide), u06, v58 6 (by decide) (by decide), ub 58 (by decide)]; exact l7
  · rw [v1 0 (by decide), u07, v58 21 (by decide) (by decide), ub 58 (by decide)]; exact l8
theorem s_point (h : iv w) (a b : Int32) : e_i K mX6_point mX7_point [.ref 0, .int a, .int b] [.ref 58, .int a, .int b] w := by
  have hg := iv_g h
  have hn := gc_n h.1.1
  have l1 := h.2.2.2.1
  have hp1 := h.1.1.2.1
  apply en_X6_point
  refine c_isWithin a 0 4 ?_
  cases ha : isIn a 0 4 with
  | false =>
    refine ⟨fun _ => ?_, fun q => absurd rfl q⟩
    apply en_X7_point
    refine m_isIn a 0 4 ?_
    rw [ha]
    exact ⟨fun _ => ⟨rfl, h⟩, fun q => absurd rfl q⟩
  | true =>
    refine ⟨fun q => absurd q (by decide), fun _ => c_isWithin b 0 4 ?_⟩
    cases hb : isIn b 0 4 with
    | false =>
      refine ⟨fun q => absurd rfl q, fun _ => ?_⟩
      apply en_X7_point
      refine m_isIn a 0 4 ?_
      rw [ha]
      refine ⟨fun q => absurd q (by decide), fun _ => m_isIn b 0 4 ?_⟩
      rw [hb]
      exact ⟨fun q => absurd rfl q, fun _ => ⟨rfl, h⟩⟩
    | true =>
      have hx := isIn_b (x := 0) (y := 4) (by constructor <;> decide) (by constructor <;> decide) ha
      have hy := isIn_b (x := 0) (y := 4) (by constructor <;> decide) (by constructor <;> decide) hb
      generalize hgn : (gc_g w).1 = n at *
      have fin : ∀ (u : wo_T) (r : Int32), u.1 58 5 = nI n → (tkn u n a b → r = -3 ∧ iv u) → (¬ tkn u n a b → n = 5 → r = -4 ∧ iv u) → (¬ tkn u n a b → n < 5 → ∀ v, m_A u n a b v → r = nI n ∧ iv v) → jj_Ci K mX7_point [.ref 58, .int a, .int b] u (fun v' u' => v' = r ∧ iv u') := by
        intro u r h5 q1 q2 q3
        apply en_X7_point
        refine m_isIn a 0 4 ?_
        rw [ha]
        refine ⟨fun q => absurd q (by decide), fun _ => m_isIn b 0 4 ?_⟩
        rw [hb]
        refine ⟨fun _ => m_pointW hn h5 a b (fun t => ⟨(q1 t).1.symm, (q1 t).2⟩) (fun t e => ⟨(q2 t e).1.symm, (q2 t e).2⟩) (fun t e v hv => ⟨(q3 t e v hv).1.symm, (q3 t e v hv).2⟩), fun q => absurd q (by decide)⟩
      refine ⟨fun _ => c_isTaken (n := n) hn hp1 h.2.2.2.2.1 h.2.2.2.2.2.1 a b (fun ht => ⟨fun q => absurd q (by decide), fun _ => ?_⟩) (fun ht => ⟨fun _ => ?_, fun q => absurd rfl q⟩), fun q => absurd q (by decide)⟩
      · exact fin w (-3) (by rw [← l1]; exact hp1) (fun _ => ⟨rfl, h⟩) (fun t => absurd ht t) (fun t => absurd ht t)
      · rw [hp1]
        refine ⟨fun q => ?_, fun q => ?_⟩
        · have hn5 : n < 5 := by
            rcases Nat.lt_or_ge n 5 with z | z
            · exact z
            · exact absurd (show ¬ nI n < 5 by rw [show n = 5 by omega]; decide) (fun z2 => z2 q)
          refine c_add hn5 (by rw [wo_i_ne 1 (by decide)]; exact hp1) a b (fun u hA => ?_)
          have ub : ∀ c, 7 < c → u.1 c = w.1 c := fun c hc => by rw [hA.1 c (Or.inr hc), wo_i_ne c (by omega)]
          have ht' : ¬ tkn u n a b := fun ⟨p, z1, z2, z3⟩ => ht ⟨p, z1, by rw [← ub 59 (by decide)]; exact z2, by rw [← ub 60 (by decide)]; exact z3⟩
          exact fin u (nI n) (by rw [ub 58 (by decide), ← l1]; exact hp1) (fun t => absurd t ht') (fun _ e => by omega) (fun _ _ v hv => ⟨rfl, iv_point h hgn hn5 hx hy ht hA hv⟩)
        · have hn5 : n = 5 := by
            rcases Nat.lt_or_ge n 5 with z | z
            · exact absurd (nI_lt (a := n) (b := 5) z (by omega)) q
            · omega
          exact fin w (-4) (by rw [← l1]; exact hp1) (fun t => absurd t ht) (fun _ _ => ⟨rfl, h⟩) (fun _ e => by omega)
end

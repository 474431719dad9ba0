/-! ===== the model: a way comes to the rows ===== -/
def rs_S (g : gd_T) (B : Nat) (u : wo_T) (ws cs : List Nat) : Prop := u.1 58 9 = nI ws.length ∧ ∀ i, i < ws.length → u.1 65 i = nI (rr_p cs i) ∧ ∃ R, rr_R g B ws cs i R ∧ rw_V u i (mw (gd_m g) R)
def md_f (w u : wo_T) : Prop := wo_fr [58, 65] [64] w u ∧ ∀ j, j ≠ 9 → u.1 58 j = w.1 58 j
theorem md_f_rf (w : wo_T) : md_f w w := ⟨wo_fr_rf _ _ _, fun _ _ => rfl⟩
theorem md_f_tr {w u v : wo_T} (h : md_f w u) (h2 : md_f u v) : md_f w v := ⟨wo_fr_tr h.1 h2.1, fun j hj => (h2.2 j hj).trans (h.2 j hj)⟩
theorem md_f_o {w u : wo_T} (h : wo_fr [] [64] w u) : md_f w u := ⟨wo_fr_up h (fun b hb => by cases hb) (fun b hb => hb), fun j _ => by rw [h.1 58 (by simp)]⟩
theorem md_s {w u : wo_T} (h : md_f w u) : gm_s w u := ⟨h.2 5 (by decide), h.1.1 59 (by simp), h.1.1 60 (by simp), h.1.1 61 (by simp), h.1.1 62 (by simp)⟩
theorem mw_sub (m : Nat) (y R : Nat → Int) (a b : Int) (c : Nat) : mw m (fun c => y c * a - R c * b) c = mw m y c * a - mw m R c * b := by
  unfold mw
  split
  · rfl
  · split
    · rfl
    · simp
theorem rr_prod {a b c d : Int} (h1 : -8589934592 < a ∧ a < 8589934592) (h2 : -8589934592 < b ∧ b < 8589934592) (h3 : -67108864 < c ∧ c < 67108864) (h4 : -67108864 < d ∧ d < 67108864) : nn_L (a * c - d * b) := by
  have e1 := xs_mul h1.1 h1.2 h3.1 h3.2
  have e2 := xs_mul h4.1 h4.2 h2.1 h2.2
  constructor <;> omega
section
variable {K : jj_K} {w : wo_T} {B : Nat} {ws cs : List Nat}
/-- the row as it is laid -/
theorem ma_lay {P : Int32 → wo_T → Prop} (h : gm_ok w) (hB : B < 2 ^ gd_m (gm_g w)) {r v : Nat} (hr : r < 10) (hv : v < 10) (hf : gd_free (gm_g w) v = true)
    (kk : ∀ u, rw_o w u r → rw_V u r (mw (gd_m (gm_g w)) (ff_r (gm_g w) B v)) → jj_J K mX7_adds (jj_Ri P) 75 [(0, .ref 58), (1, .int (nI B)), (2, .int (nI v)), (3, .int (nI (11 * r))), (4, .int 0)] [] u) :
    jj_J K mX7_adds (jj_Ri P) 11 [(0, .ref 58), (1, .int (nI B)), (2, .int (nI v)), (3, .int (nI (11 * r))), (4, .int 0)] [] w := by
  have hm := gm_m h
  have hB2 : B < 1024 := Nat.lt_of_lt_of_le hB (by
    have : (2 : Nat) ^ gd_m (gm_g w) ≤ 2 ^ 10 := Nat.pow_le_pow_right (by decide) hm
    omega)
  have loop : ∀ d c u, c + d = 10 → rw_o w u r → (∀ c', c' < c → u.2 64 (11 * r + c') = nn_l (mw (gd_m (gm_g w)) (ff_r (gm_g w) B v) c')) → jj_J K mX7_adds (jj_Ri P) 11 [(0, .ref 58), (1, .int (nI B)), (2, .int (nI v)), (3, .int (nI (11 * r))), (4, .int (nI c))] [] u := by
    intro d
    induction d with
    | zero =>
      intro c u hc ho hrow
      have e : c = 10 := by omega
      subst e
      apply vc_X7_adds_11
      have e10 : nI (11 * r) + 10 = nI (11 * r + 10) := nI_add _ 10
      rw [e10, nI_clamp (by omega), nI_clamp (by omega)]
      have hg : gm_g u = gm_g w := gm_g_eq (md_s (md_f_o ho.1))
      have hload : (-(u.1 62 v)).toInt64 = nn_l (ff_r (gm_g w) B v (gd_m (gm_g w))) := by
        have hv2 : v < 2 * (gm_g w).1 := by
          unfold gd_free at hf
          simp only [Bool.and_eq_true, decide_eq_true_eq] at hf
          exact hf.1
        have hb := h.1.2.2.2 v hv2
        have e : u.1 62 v = nn_i ((gm_g w).2.2.2.2 v) := by rw [ho.1.1 62 (by simp)]; exact nn_i_of _
        rw [e, nn_i_neg, nn_i_l ⟨by omega, by omega⟩]
        simp [ff_r, tb_v, gd_rhs, hf]
      refine ⟨fun _ => ⟨nn_inn hv (by decide), nn_inn (by omega) (by decide), kk _ ⟨wo_fr_l ho.1 (by simp) _ _, fun j hj => ?_⟩ (fun c hc => ?_)⟩, fun q => absurd (by decide) q⟩
      · rw [wo_l_nk (by omega)]; exact ho.2 j hj
      · rcases Nat.lt_or_ge c 10 with h2 | h2
        · rw [wo_l_nk (by omega)]; exact hrow c h2
        · have e2 : c = 10 := by omega
          subst e2
          rw [wo_l_eq, mw_10]
          exact hload
    | succ d ih =>
      intro c u hc ho hrow
      have c10 : c < 10 := by omega
      have hg : gm_g u = gm_g w := gm_g_eq (md_s (md_f_o ho.1))
      apply vc_X7_adds_11
      rw [nn_bit1 (by omega) (by omega), nI_add, nI_clamp (n := 11 * r + c) (by omega), nn_ad1]
      have next : ∀ z : Int64, z = nn_l (mw (gd_m (gm_g w)) (ff_r (gm_g w) B v) c) → jj_J K mX7_adds (jj_Ri P) 11 [(0, .ref 58), (1, .int (nI B)), (2, .int (nI v)), (3, .int (nI (11 * r))), (4, .int (nI (c + 1)))] [] (wo_l u 64 (11 * r + c) z) := by
        intro z hz
        refine ih (c + 1) _ (by omega) ⟨wo_fr_l ho.1 (by simp) _ _, fun j hj => ?_⟩ (fun c' hc' => ?_)
        · rw [wo_l_nk (by omega)]; exact ho.2 j hj
        · rcases Nat.lt_or_ge c' c with h1 | h1
          · rw [wo_l_nk (by omega)]; exact hrow c' h1
          · have e : c' = c := by omega
            subst e
            rw [wo_l_eq]; exact hz
      refine ⟨fun q => absurd q (nI_ge (b := 10) c10 (by decide)), fun _ => ⟨fun hb => ⟨nn_inn (by omega) (by decide), next _ ?_⟩, fun hb => ?_⟩⟩
      · have hb2 : B.testBit c = false := by
          cases hq : B.testBit c with
          | false => rfl
          | true => exact absurd hq hb
        have : mw (gd_m (gm_g w)) (ff_r (gm_g w) B v) c = 0 := by
          unfold mw
          rw [if_neg (by omega)]
          split
          · rename_i hcm
            simp [ff_r, Nat.le_of_lt hcm, tb_v, Nat.ne_of_lt hcm, hb2]
          · rfl
        rw [this]; rfl
      · have hcm : c < gd_m (gm_g w) := by
          rcases Nat.lt_or_ge c (gd_m (gm_g w)) with h1 | h1
          · exact h1
          · rw [gd_big hB h1] at hb; cases hb
        refine m_brought c10 hv ⟨nn_inn (by omega) (by decide), ?_⟩
        rw [hg, nn_i_l (gd_br_I h.1 hcm v)]
        refine next _ ?_
        rw [mw_p hm hcm]
        simp [ff_r, Nat.le_of_lt hcm, tb_v, Nat.ne_of_lt hcm, hb, gd_col, hf]
  exact loop 10 0 w rfl (rw_o_rf _ _) (fun c' h => absurd h (Nat.not_lt_zero _))
/-- the row is cleared at the pivots -/
theorem ma_clear {P : Int32 → wo_T → Prop} {g : gd_T} (hok : gd_ok g) (hK : ff_K g B ws cs) (hS : rs_S g B w ws cs) {v : Nat} (hv : v < 10)
    (kk : ∀ u y, rw_o w u ws.length → rw_V u ws.length (mw (gd_m g) y) → rr_Y g B ws cs v ws.length y → jj_J K mX7_adds (jj_Ri P) 114 [(0, .ref 58), (1, .int (nI B)), (2, .int (nI v)), (3, .int (nI (11 * ws.length))), (4, .int (-1)), (5, .int 9)] [] u) :
    ∀ d s u y, s + d = ws.length → rw_o w u ws.length → rw_V u ws.length (mw (gd_m g) y) → rr_Y g B ws cs v s y → jj_J K mX7_adds (jj_Ri P) 75 [(0, .ref 58), (1, .int (nI B)), (2, .int (nI v)), (3, .int (nI (11 * ws.length))), (4, .int (nI s))] [] u := by
  have hm := gd_m_le hok
  have h7 := ff_7 hok hK
  obtain ⟨i1, i2, i3, i4⟩ := ff_K_p hK
  intro d
  induction d with
  | zero =>
    intro s u y hs ho hrow hY
    apply vc_X7_adds_75
    have e : s = ws.length := by omega
    subst e
    rw [ho.1.1 58 (by simp), hS.1]
    exact ⟨fun _ => kk u y ho hrow hY, fun q => absurd (nI_le (Nat.le_refl _) (by omega)) q⟩
  | succ d ih =>
    intro s u y hs ho hrow hY
    have hs1 : s < ws.length := by omega
    obtain ⟨hp, R, hR, hRV⟩ := hS.2 s hs1
    have hpm := i3 _ (rr_p_mem (cs := cs) (i := s) (by omega))
    apply vc_X7_adds_75
    rw [ho.1.1 58 (by simp), hS.1, nI_clamp (by omega), ho.1.1 65 (by simp), hp, nn_el', nn_ad1]
    refine ⟨fun q => absurd q (nI_ge hs1 (by omega)), fun _ => ⟨nn_inn (by omega) (by decide), ?_⟩⟩
    have by_ := fun c => rr_Yb hok (s := s) (by omega) hY c
    have bR := fun c => rr_bd hok hK hs1 hR c
    have bV := fun c => mw_all (m := gd_m g) (R := y) (Q := fun z => -8589934592 < z ∧ z < 8589934592) (by constructor <;> decide) (fun c _ => by_ c) c
    have bU := fun c => mw_all (m := gd_m g) (R := R) (Q := fun z => -67108864 < z ∧ z < 67108864) (by constructor <;> decide) (fun c _ => bR c) c
    refine m_clears (V := mw (gd_m g) y) (U := mw (gd_m g) R) (by omega) (by omega) (by omega) (by omega) hrow (rw_o_V ho (by omega) hRV) (nn_L_of 8589934592 (by decide) (bV _).1 (bV _).2) (fun c _ => rr_prod (bV c) (bV _) (bU _) (bU c)) (fun h0 => ?_) (fun h0 u2 d2 V' ho2 hV2 hd2 he2 hP2 => ?_)
    · rw [mw_p hm hpm] at h0
      exact ih (s + 1) u y (by omega) ho hrow (rr_Y1z hK hs1 hY h0)
    · obtain ⟨y', e1, e2, e3, e4⟩ := mw_low hm (R := fun c => y c * R (rr_p cs s) - R c * y (rr_p cs s)) hd2 (fun c hc => by rw [hY.2.2 c hc, hR.2.2.2.2 c hc]; simp) (fun c hc => by
        rw [mw_sub, ← he2 c hc, mw_p hm hpm, mw_p hm hpm]) hP2
      exact ih (s + 1) u2 y' (by omega) (rw_o_tr ho ho2) (fun c hc => by rw [hV2 c hc, e1 c hc]) (rr_Y1 hok hK hv hs1 hR hY (by omega) e2 e4)
/-- rows ahead are cleared at the new pivot -/
theorem ma_back {P : Int32 → wo_T → Prop} {g : gd_T} (hok : gd_ok g) (hK : ff_K g B ws cs) {v c0 : Nat} (hK2 : ff_K g B (v :: ws) (c0 :: cs)) {y : Nat → Int} (hy : rr_R g B (v :: ws) (c0 :: cs) ws.length y) (hw9 : w.1 58 9 = nI ws.length) (hpv : ∀ i, i < ws.length → w.1 65 i = nI (rr_p cs i))
    (kk : ∀ u, md_f w u → rs_S g B u (v :: ws) (c0 :: cs) → P 1 u) :
    ∀ d t u, t + d = ws.length → wo_fr [] [64] w u → rw_V u ws.length (mw (gd_m g) y) → (∀ i, i < t → ∃ R, rr_R g B (v :: ws) (c0 :: cs) i R ∧ rw_V u i (mw (gd_m g) R)) → (∀ i, t ≤ i → i < ws.length → ∃ R, rr_R g B ws cs i R ∧ rw_V u i (mw (gd_m g) R)) → jj_J K mX7_adds (jj_Ri P) 182 [(0, .ref 58), (1, .int (nI B)), (2, .int (nI v)), (3, .int (nI (11 * ws.length))), (4, .int (nI c0)), (5, .int (nI t))] [] u := by
  have hm := gd_m_le hok
  have h7 := ff_7 hok hK
  obtain ⟨i1, i2, i3, i4⟩ := ff_K_p hK
  have hc0 := hK2.2.1
  have hnd := (List.nodup_cons.mp (ff_nd hK2)).1
  have h72 := ff_7 hok hK2
  have hlen1 : (v :: ws).length = ws.length + 1 := rfl
  intro d
  induction d with
  | zero =>
    intro t u ht ho hrow hdone hleft
    apply vc_X7_adds_182
    have e : t = ws.length := by omega
    subst e
    rw [ho.1 58 (by simp), hw9, nI_clamp (by omega)]
    refine ⟨fun _ => ⟨nn_inn (by omega) (by decide), kk _ ⟨wo_fr_i (wo_fr_i (md_f_o ho).1 (by simp) _ _) (by simp) _ _, fun j hj => ?_⟩ ⟨?_, fun i hi => ⟨?_, ?_⟩⟩⟩, fun q => absurd (nI_le (Nat.le_refl _) (by omega)) q⟩
    · rw [wo_i_nk (by omega), wo_i_ne _ (by omega), ho.1 58 (by simp)]
    · rw [wo_i_eq, wo_i_ne _ (by omega), ho.1 58 (by simp), hw9, nn_ad1]; rfl
    · rw [wo_i_ne _ (by omega)]
      rcases Nat.lt_or_ge i ws.length with h1 | h1
      · rw [wo_i_nk (by omega), ho.1 65 (by simp), rr_p_lt _ _ (by omega)]
        exact hpv i h1
      · have e : i = ws.length := by omega
        rw [e, wo_i_eq, ← i2, rr_p_eq]
    · rcases Nat.lt_or_ge i ws.length with h1 | h1
      · exact hdone i h1
      · have e : i = ws.length := by omega
        rw [e]
        exact ⟨y, hy, hrow⟩
  | succ d ih =>
    intro t u ht ho hrow hdone hleft
    have ht1 : t < ws.length := by omega
    obtain ⟨R, hR, hRV⟩ := hleft t (Nat.le_refl _) ht1
    apply vc_X7_adds_182
    rw [ho.1 58 (by simp), hw9, nn_el', nn_ad1]
    refine ⟨fun q => absurd q (nI_ge ht1 (by omega)), fun _ => ?_⟩
    have bR := fun c => rr_bd hok hK ht1 hR c
    have by_ := fun c => rr_bd hok hK2 (i := ws.length) (by omega) hy c
    have bV := fun c => mw_all (m := gd_m g) (R := R) (Q := fun z => -67108864 < z ∧ z < 67108864) (by constructor <;> decide) (fun c _ => bR c) c
    have bU := fun c => mw_all (m := gd_m g) (R := y) (Q := fun z => -67108864 < z ∧ z < 67108864) (by constructor <;> decide) (fun c _ => by_ c) c
    have up : ∀ {z : Int}, -67108864 < z ∧ z < 67108864 → -8589934592 < z ∧ z < 8589934592 := fun h => ⟨by omega, by omega⟩
    have hmk : ∀ u2, rw_o u u2 t → (∃ R', rr_R g B (v :: ws) (c0 :: cs) t R' ∧ rw_V u2 t (mw (gd_m g) R')) → jj_J K mX7_adds (jj_Ri P) 182 [(0, .ref 58), (1, .int (nI B)), (2, .int (nI v)), (3, .int (nI (11 * ws.length))), (4, .int (nI c0)), (5, .int (nI (t + 1)))] [] u2 := by
      intro u2 ho2 hnew
      refine ih (t + 1) u2 (by omega) (wo_fr_tr ho ho2.1) (rw_o_V ho2 (by omega) hrow) (fun i hi => ?_) (fun i h1 h2 => ?_)
      · rcases Nat.lt_or_ge i t with h3 | h3
        · obtain ⟨R', a, b⟩ := hdone i h3
          exact ⟨R', a, rw_o_V ho2 (by omega) b⟩
        · have e : i = t := by omega
          rw [e]; exact hnew
      · obtain ⟨R', a, b⟩ := hleft i (by omega) h2
        exact ⟨R', a, rw_o_V ho2 (by omega) b⟩
    refine m_clears (V := mw (gd_m g) R) (U := mw (gd_m g) y) (by omega) (by omega) (by omega) (by omega) hRV hrow (nn_L_of 67108864 (by decide) (bV _).1 (bV _).2) (fun c _ => rr_prod (up (bV c)) (up (bV _)) (bU _) (bU c)) (fun h0 => ?_) (fun h0 u2 d2 V' ho2 hV2 hd2 he2 hP2 => ?_)
    · rw [mw_p hm hc0] at h0
      exact hmk u (rw_o_rf _ _) ⟨R, rr_Rsame i2 ht1 hR h0, hRV⟩
    · obtain ⟨R', e1, e2, e3, e4⟩ := mw_low hm (R := fun c => R c * y c0 - y c * R c0) hd2 (fun c hc => by rw [hR.2.2.2.2 c hc, hy.2.2.2.2 c hc]; simp) (fun c hc => by
        rw [mw_sub, ← he2 c hc, mw_p hm hc0, mw_p hm hc0]) hP2
      refine hmk u2 ho2 ⟨R', rr_Rold i2 hnd ht1 hy hR (by omega) e2 (e4.resolve_right (fun hz => ?_)), fun c hc => by rw [hV2 c hc, e1 c hc]⟩
      have e5 := e2 (rr_p cs t)
      have hmem := rr_p_mem (cs := cs) (i := t) (by omega)
      have hpe := rr_p_eq c0 cs
      rw [i2] at hpe
      have y0 : y (rr_p cs t) = 0 := hy.2.1 _ (List.mem_cons_of_mem _ hmem) (by rw [hpe]; exact fun q => hnd (q ▸ hmem))
      have yc : y c0 ≠ 0 := by have := hy.2.2.1; rw [hpe] at this; exact this
      rw [hz, y0] at e5
      have h2 : R (rr_p cs t) * y c0 = 0 := by simpa using e5
      exact (Int.mul_eq_zero.mp h2).elim hR.2.2.1 yc
theorem m_adds {P : Int32 → wo_T → Prop} (h : gm_ok w) (hB : B < 2 ^ gd_m (gm_g w)) (hK : ff_K (gm_g w) B ws cs) (hS : rs_S (gm_g w) B w ws cs) {v : Nat} (hv : v < 10) (hf : gd_free (gm_g w) v = true)
    (k1 : ∀ u c, md_f w u → ff_K (gm_g w) B (v :: ws) (c :: cs) → rs_S (gm_g w) B u (v :: ws) (c :: cs) → P 1 u)
    (k2 : ∀ u, md_f w u → (∀ c, c ≤ gd_m (gm_g w) → ff_p (gm_g w) B (c :: cs) (v :: ws) = 0) → rs_S (gm_g w) B u ws cs → P 1 u)
    (k3 : ∀ u, md_f w u → (∀ c, c < gd_m (gm_g w) → ff_p (gm_g w) B (c :: cs) (v :: ws) = 0) → ff_p (gm_g w) B (gd_m (gm_g w) :: cs) (v :: ws) ≠ 0 → P 0 u) : jj_Ci K mX7_adds [.ref 58, .int (nI B), .int (nI v)] w P := by
  have hok := h.1
  have hm := gm_m h
  have h7 := ff_7 hok hK
  obtain ⟨i1, i2, i3, i4⟩ := ff_K_p hK
  apply en_X7_adds
  intro x1 e1
  rw [hS.1, nn_el'] at e1
  subst e1
  refine ma_lay h hB (by omega) hv hf (fun u0 ho0 hV0 => ?_)
  refine ma_clear (w := w) hok hK hS hv (fun u y ho hrow hY => ?_) ws.length 0 u0 _ (by omega) ho0 hV0 (rr_Y0 hok hK hv)
  obtain ⟨k, l, hk, hl, hkl⟩ := rr_Yend hok hK hY
  have hiff : ∀ c, y c = 0 ↔ ff_p (gm_g w) B (c :: cs) (v :: ws) = 0 := fun c => by
    have e := hkl c
    constructor
    · intro q
      rw [q, Int.mul_zero] at e
      exact (Int.mul_eq_zero.mp e.symm).resolve_left hl
    · intro q
      rw [q, Int.mul_zero] at e
      exact (Int.mul_eq_zero.mp e).resolve_left hk
  have by_ := fun c => rr_Yb hok h7 hY c
  have bV := fun c => mw_all (m := gd_m (gm_g w)) (R := y) (Q := fun z => -8589934592 < z ∧ z < 8589934592) (by constructor <;> decide) (fun c _ => by_ c) c
  have bL : ∀ c, nn_L (mw (gd_m (gm_g w)) y c) := fun c => nn_L_of 8589934592 (by decide) (bV c).1 (bV c).2
  have hSu : ∀ u2, rw_o w u2 ws.length → rs_S (gm_g w) B u2 ws cs := fun u2 ho2 => ⟨by rw [ho2.1.1 58 (by simp)]; exact hS.1, fun i hi => by
    obtain ⟨a, R, b, c⟩ := hS.2 i hi
    exact ⟨by rw [ho2.1.1 65 (by simp)]; exact a, R, b, rw_o_V ho2 (by omega) c⟩⟩
  -- the first column
  have loop : ∀ j (a4 : Int32), j ≤ 10 → (a4 = -1 ∧ (∀ c, j ≤ c → c < 10 → mw (gd_m (gm_g w)) y c = 0)) ∨ (∃ c, a4 = nI c ∧ c < 10 ∧ mw (gd_m (gm_g w)) y c ≠ 0) → jj_J K mX7_adds (jj_Ri P) 114 [(0, .ref 58), (1, .int (nI B)), (2, .int (nI v)), (3, .int (nI (11 * ws.length))), (4, .int a4), (5, .int (nn_i ((j : Int) - 1)))] [] u := by
    intro j
    induction j with
    | zero =>
      intro a4 _ hc
      apply vc_X7_adds_114
      refine ⟨fun _ => ⟨fun hn => ?_, fun hn => ?_⟩, fun q => absurd (by decide) q⟩
      · rcases hc with ⟨e, -⟩ | ⟨c, e, c10, hc⟩
        · exact absurd e hn
        · subst e
          have hcm : c < gd_m (gm_g w) := by
            rcases Nat.lt_or_ge c (gd_m (gm_g w)) with q | q
            · exact q
            · exfalso
              apply hc
              unfold mw
              rw [if_neg (by omega), if_neg (by omega)]
          rw [mw_p hm hcm] at hc
          have hK2 : ff_K (gm_g w) B (v :: ws) (c :: cs) := ⟨hK, hcm, hv, fun q => hc ((hiff c).mpr q)⟩
          refine m_lowers (by omega) hrow (fun c _ => bL c) (fun u2 d V' ho2 hV2 hd he hP => ?_)
          obtain ⟨y', e1, e2, e3, e4⟩ := mw_low hm hd hY.2.2 he hP
          have hy'c : y' c ≠ 0 := fun q => hc (by rw [e2 c, q, Int.mul_zero])
          have hy' := rr_Rnew (g := gm_g w) (B := B) (ws := ws) (cs := cs) (v := v) (c0 := c) (y := y') i2 (k := k * d) (l := l) (fun q => (Int.mul_eq_zero.mp q).elim hk (by omega)) hl (fun c' => by rw [← hkl c', e2 c']; grind) hy'c (e4.resolve_right (fun q => hy'c (q c))) e3
          have hoo := rw_o_tr ho ho2
          refine ma_back (w := w) hok hK hK2 hy' hS.1 (fun i hi => (hS.2 i hi).1) (fun u3 hf3 hS3 => k1 u3 c hf3 hK2 hS3) ws.length 0 u2 (by omega) hoo.1 (fun c hc => by rw [hV2 c hc, e1 c hc]) (fun i hi => absurd hi (Nat.not_lt_zero _)) (fun i _ hi => ?_)
          obtain ⟨a, R, b, c⟩ := hS.2 i hi
          exact ⟨R, b, rw_o_V hoo (by omega) c⟩
      · have e10 : nI (11 * ws.length) + 10 = nI (11 * ws.length + 10) := nI_add _ 10
        rw [e10, nI_clamp (by omega), hrow 10 (by decide), mw_10, nn_l_eq0 (by have := bL 10; rw [mw_10] at this; exact this), hiff]
        rcases hc with ⟨-, hz⟩ | ⟨c, e, c10, hc⟩
        · have hz2 : ∀ c, c < gd_m (gm_g w) → ff_p (gm_g w) B (c :: cs) (v :: ws) = 0 := fun c hc => by
            rw [← hiff, ← mw_p hm (R := y) hc]
            exact hz c (Nat.zero_le _) (by omega)
          refine ⟨nn_inn (by omega) (by decide), fun q => k3 u (md_f_o ho.1) hz2 q, fun q => k2 u (md_f_o ho.1) (fun c hc => ?_) (hSu u ho)⟩
          rcases Nat.lt_or_ge c (gd_m (gm_g w)) with h1 | h1
          · exact hz2 c h1
          · have e : c = gd_m (gm_g w) := by omega
            rw [e]; exact q
        · rw [e] at hn
          exfalso
          have := congrArg Int32.toInt hn
          rw [nn_nI_int (by omega)] at this
          have h1 : (-1 : Int32).toInt = -1 := rfl
          rw [h1] at this
          omega
    | succ j ih =>
      intro a4 hj hc
      have ej : nn_i (((j + 1 : Nat) : Int) - 1) = nI j := by
        rw [nn_nI]
        congr 1
        omega
      rw [ej]
      have ej2 : nI j + (-1) = nn_i ((j : Int) - 1) := by
        have e1 : (-1 : Int32) = nn_i (-1) := by decide
        rw [nn_nI, e1, nn_i_add]
        congr 1
      apply vc_X7_adds_114
      rw [ej2, nI_add, nI_clamp (by omega), hrow j (by omega), nn_l_eq0 (bL j)]
      refine ⟨fun q => absurd q (nI_pos (by omega)), fun _ => ⟨nn_inn (by omega) (by decide), fun h0 => ih a4 (by omega) ?_, fun h0 => ih (nI j) (by omega) (Or.inr ⟨j, rfl, by omega, h0⟩)⟩⟩
      rcases hc with ⟨e, hz⟩ | hc
      · refine Or.inl ⟨e, fun c h1 h2 => ?_⟩
        rcases Nat.lt_or_ge j c with h3 | h3
        · exact hz c h3 h2
        · have e : c = j := by omega
          rw [e]; exact h0
      · exact Or.inr hc
  exact loop 10 (-1) (Nat.le_refl _) (Or.inl ⟨rfl, fun c h1 h2 => absurd h2 (by omega)⟩)
end

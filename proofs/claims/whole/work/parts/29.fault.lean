/-! ===== the fault finder's methods ===== -/
theorem ff_out {g : gd_T} {B : Nat} {c : Nat} (hc : gd_m g < c) (cs ws : List Nat) : ff_p g B (c :: cs) ws = 0 := by
  have hz : ∀ v, ff_r g B v c = 0 := fun v => by
    unfold ff_r
    rw [if_neg (by omega)]
  have hO : xa_i (xa_e c) (xb_O (ws.map (ff_r g B)) : xa_E 11) = xa_z 11 := xc_ann (xa_e c) _ (fun k hk => by
    obtain ⟨u, -, rfl⟩ := List.mem_map.mp hk
    rw [xa_d_e]
    split
    · exact hz u
    · rfl)
  show xa_0 (xb_I cs (xa_i (xa_e c) (xb_O (ws.map (ff_r g B)) : xa_E 11))) = 0
  rw [hO, xb_I_z, xa_0_z]
/-- what the reduced row says -/
theorem ff_lin {g : gd_T} {B v : Nat} {ws cs : List Nat} (x : Nat → Int) (h : ∀ u, u ∈ ws → xa_d 11 (ff_r g B u) x = 0) : xa_d 11 (fun c => ff_p g B (c :: cs) (v :: ws)) x = ff_p g B cs ws * xa_d 11 (ff_r g B v) x := by
  obtain ⟨qs, hql, hkey⟩ := xb_key 11 cs (ws.map (ff_r g B)) (ff_r g B v)
  have hl0 : xa_d 11 (xb_l qs (ws.map (ff_r g B))) x = 0 := xa_d_l 11 x qs _ (fun z hz => by
    obtain ⟨u, hu, rfl⟩ := List.mem_map.mp hz
    exact h u hu)
  have e3 : xa_d 11 (fun c => ff_p g B (c :: cs) (v :: ws)) x = ff_p g B cs ws * xa_d 11 (ff_r g B v) x + (-1) * xa_d 11 (xb_l qs (ws.map (ff_r g B))) x := by
    rw [gd_d_s, gd_d_s, gd_d_s, ← gd_s_lin]
    refine gd_s_congr 11 (fun j hj => ?_)
    have e := hkey j hj
    have e' : ff_p g B (j :: cs) (v :: ws) = ff_p g B cs ws * ff_r g B v j - xb_l qs (ws.map (ff_r g B)) j := e
    rw [e']; grind
  rw [e3, hl0]; simp
theorem ff_dep {g : gd_T} {B v : Nat} {ws cs : List Nat} (hK : ff_K g B ws cs) (h0 : ∀ c, c ≤ gd_m g → ff_p g B (c :: cs) (v :: ws) = 0) (x : Nat → Int) (h : ∀ u, u ∈ ws → xa_d 11 (ff_r g B u) x = 0) : xa_d 11 (ff_r g B v) x = 0 := by
  have e := ff_lin (cs := cs) (v := v) x h
  have z : xa_d 11 (fun c => ff_p g B (c :: cs) (v :: ws)) x = 0 := by
    rw [gd_d_s]
    refine gd_s_z 11 (fun c _ => ?_)
    have : ff_p g B (c :: cs) (v :: ws) = 0 := by
      rcases Nat.lt_or_ge (gd_m g) c with h1 | h1
      · exact ff_out h1 _ _
      · exact h0 c h1
    rw [this]; simp
  rw [z] at e
  exact (Int.mul_eq_zero.mp e.symm).resolve_left (ff_K_p hK).1
theorem ff_unt {g : gd_T} (hok : gd_ok g) {B v : Nat} (hB : B < 2 ^ gd_m g) {ws cs : List Nat} (hw : ∀ u, u ∈ ws → u < v) (h0 : ∀ c, c < gd_m g → ff_p g B (c :: cs) (v :: ws) = 0) (hn : ff_p g B (gd_m g :: cs) (v :: ws) ≠ 0) : gd_unt g B v := by
  have hm := gd_m_le hok
  intro p q hq hall
  have hd : ∀ u, u ≤ v → xa_d 11 (ff_r g B u) (ff_x g p q) = 0 := fun u hu => by
    rw [ff_dot hok hB p q hq u, hall u hu]; omega
  have e := ff_lin (cs := cs) (v := v) (ff_x g p q) (fun u hu => hd u (Nat.le_of_lt (hw u hu)))
  rw [hd v (Nat.le_refl _), Int.mul_zero, gd_d_s, gd_s_pick (k := gd_m g) 11 (by omega)] at e
  rw [gd_s_z 11 (fun c _ => ?_)] at e
  · have e2 : ff_p g B (gd_m g :: cs) (v :: ws) * ff_x g p q (gd_m g) = 0 := by omega
    have e3 : ff_x g p q (gd_m g) = -p := by simp [ff_x]
    rw [e3] at e2
    have := (Int.mul_eq_zero.mp e2).resolve_left hn
    omega
  · by_cases ec : c = gd_m g
    · simp [ec]
    · simp only [ec, if_false]
      have : ff_p g B (c :: cs) (v :: ws) = 0 := by
        rcases Nat.lt_or_ge (gd_m g) c with h1 | h1
        · exact ff_out h1 _ _
        · exact h0 c (by omega)
      rw [this]; simp
/-- the kept rows as they stand -/
def ff_L (g : gd_T) (B : Nat) (u : wo_T) : List Nat → List Nat → Prop
  | [], [] => True
  | v :: ws, c :: cs => ff_L g B u ws cs ∧ u.1 47 ws.length = nI c ∧ ∀ c', c' ≤ gd_m g → u.2 (37 + 1 * ws.length) c' = nn_l (ff_p g B (c' :: cs) (v :: ws))
  | _, _ => False
theorem ff_L_fr {g : gd_T} {B : Nat} {w u : wo_T} : ∀ {ws cs : List Nat}, (∀ j, j < ws.length → u.1 47 j = w.1 47 j ∧ u.2 (37 + 1 * j) = w.2 (37 + 1 * j)) → ff_L g B w ws cs → ff_L g B u ws cs
  | [], [], _, _ => trivial
  | v :: ws, c :: cs, hj, h => by
    refine ⟨ff_L_fr (fun j h1 => hj j (by simp; omega)) h.1, ?_, fun c' hc' => ?_⟩
    · rw [(hj ws.length (by simp)).1]; exact h.2.1
    · rw [(hj ws.length (by simp)).2]; exact h.2.2 c' hc'
  | [], _ :: _, _, h => by cases h
  | _ :: _, [], _, h => by cases h
section
variable {K : jj_K} {w : wo_T} {g : gd_T} {B : Nat}
theorem ff_in {P : wo_T → Prop} (hok : gd_ok g) (hc2 : w.1 35 2 = nI (gd_m g)) {kp : Nat} (hkp : kp < 10) {v v1 c1 : Nat} {ws cs : List Nat} (hK : ff_K g B (v1 :: ws) (c1 :: cs)) (hv : v < 10) (hlen : ws.length < kp)
    (hby : ∀ c', c' ≤ gd_m g → w.2 (37 + 1 * ws.length) c' = nn_l (ff_p g B (c' :: cs) (v1 :: ws)))
    (kk : ∀ u, wo_fr [] [37 + 1 * kp] w u → (∀ c, c ≤ gd_m g → u.2 (37 + 1 * kp) c = nn_l (ff_p g B (c :: c1 :: cs) (v :: v1 :: ws))) → jj_J K mX2_reduce (jj_Rv P) 12 [(0, .ref 35), (1, .int (nI kp)), (2, .ref (37 + 1 * kp)), (3, .long (nn_l (ff_p g B (c1 :: cs) (v1 :: ws)))), (5, .int (nI (ws.length + 1)))] [] u) :
    ∀ d c u, c + d = gd_m g + 1 → wo_fr [] [37 + 1 * kp] w u → (∀ c', c' < c → u.2 (37 + 1 * kp) c' = nn_l (ff_p g B (c' :: c1 :: cs) (v :: v1 :: ws))) → (∀ c', c ≤ c' → c' ≤ gd_m g → u.2 (37 + 1 * kp) c' = nn_l (ff_p g B (c' :: cs) (v :: ws))) →
      jj_J K mX2_reduce (jj_Rv P) 59 [(0, .ref 35), (1, .int (nI kp)), (2, .ref (37 + 1 * kp)), (3, .long (nn_l (ff_p g B cs ws))), (5, .int (nI ws.length)), (6, .ref (37 + 1 * ws.length)), (7, .long (nn_l (ff_p g B (c1 :: cs) (v1 :: ws)))), (9, .long (nn_l (ff_p g B (c1 :: cs) (v :: ws)))), (11, .int (nI c))] [] u := by
  have hm := gd_m_le hok
  obtain ⟨k0, k1, k2, k3⟩ := hK
  obtain ⟨i1, i2, i3, i4⟩ := ff_K_p k0
  intro d
  induction d with
  | zero =>
    intro c u hc hfr hlo hhi
    apply vc_X2_reduce_59 P _ _ (wo_l37 _ hkp) _ _ _ (wo_l37 _ (by omega))
    rw [hfr.1 35 (by simp), hc2]
    simp only [nn_ad1]
    exact ⟨fun _ => kk u hfr (fun c' hc' => hlo c' (by omega)), fun q => absurd (nI_lt (by omega) (by omega)) q⟩
  | succ d ih =>
    intro c u hc hfr hlo hhi
    have hcm : c ≤ gd_m g := by omega
    apply vc_X2_reduce_59 P _ _ (wo_l37 _ hkp) _ _ _ (wo_l37 _ (by omega))
    rw [hfr.1 35 (by simp), hc2, nI_clamp (by omega)]
    simp only [nn_ad1]
    have hb0 := ff_bar hok B cs ws i3 i4 (by omega)
    refine ⟨fun q => absurd q (nI_nlt hcm (by omega)), fun _ => ⟨nn_inn (by omega) (by decide), nn_inn (by omega) (by decide), ?_, nn_inn (by omega) (by decide), ?_⟩⟩
    · rw [nn_l_eq0 (nn_L_of 16777217 (by decide) hb0.1 hb0.2)]
      exact i1
    · rw [hhi c (Nat.le_refl _) hcm, hfr.2 (37 + 1 * ws.length) (by simp; omega), hby c hcm, nn_l_mul, nn_l_mul, nn_l_sub]
      have hstep : ff_p g B cs ws * ff_p g B (c :: c1 :: cs) (v :: v1 :: ws) = ff_p g B (c1 :: cs) (v1 :: ws) * ff_p g B (c :: cs) (v :: ws) - ff_p g B (c :: cs) (v1 :: ws) * ff_p g B (c1 :: cs) (v :: ws) :=
        xb_step 11 cs (ws.map (ff_r g B)) (ff_r g B v1) (ff_r g B v) c1 c (by omega) (by omega) i1
      have hbz := ff_all hok B (c :: c1 :: cs) (v :: v1 :: ws) (fun u hu => by
        rcases List.mem_cons.mp hu with rfl | hu
        · exact hv
        · rcases List.mem_cons.mp hu with rfl | hu
          · exact k2
          · exact i4 u hu) (by simp; omega)
      have hmul := xs_mul hb0.1 hb0.2 hbz.1 hbz.2
      rw [nn_l_exact (c := ff_p g B (c :: c1 :: cs) (v :: v1 :: ws)) (nn_L_of _ (by decide) hmul.1 hmul.2) (nn_L_of 16777217 (by decide) hb0.1 hb0.2) i1 (by rw [hstep, Int.mul_comm (ff_p g B (c1 :: cs) (v :: ws))])]
      refine ih (c + 1) _ (by omega) (wo_fr_l hfr (by simp) _ _) (fun c' h1 => ?_) (fun c' h1 h2 => ?_)
      · rcases Nat.lt_or_ge c' c with h3 | h3
        · rw [wo_l_nk (by omega)]; exact hlo c' h3
        · have e : c' = c := by omega
          subst e
          rw [wo_l_eq]
      · rw [wo_l_nk (by omega)]; exact hhi c' (by omega) h2
theorem ff_run {P : wo_T → Prop} (hok : gd_ok g) (hc2 : w.1 35 2 = nI (gd_m g)) {kp : Nat} (hkp : kp < 10) {v : Nat} (hv : v < 10) (hrow : ∀ c, c ≤ gd_m g → w.2 (37 + 1 * kp) c = nn_l (ff_p g B [c] [v])) :
    ∀ {ws cs : List Nat}, ff_K g B ws cs → ff_L g B w ws cs → ws.length ≤ kp →
      (∀ u, wo_fr [] [37 + 1 * kp] w u → (∀ c, c ≤ gd_m g → u.2 (37 + 1 * kp) c = nn_l (ff_p g B (c :: cs) (v :: ws))) → jj_J K mX2_reduce (jj_Rv P) 12 [(0, .ref 35), (1, .int (nI kp)), (2, .ref (37 + 1 * kp)), (3, .long (nn_l (ff_p g B cs ws))), (5, .int (nI ws.length))] [] u) →
      jj_J K mX2_reduce (jj_Rv P) 12 [(0, .ref 35), (1, .int (nI kp)), (2, .ref (37 + 1 * kp)), (3, .long 1), (5, .int 0)] [] w
  | [], [], _, _, _, kk => by
    have h1 : ff_p g B [] [] = 1 := xb_p00 11
    have := kk w (wo_fr_rf _ _ _) hrow
    rw [h1] at this
    exact this
  | v1 :: ws, c1 :: cs, hK, hL, hl, kk => by
    have hm := gd_m_le hok
    have hl1 : ws.length < kp := hl
    obtain ⟨k0, k1, k2, k3⟩ := hK
    obtain ⟨i1, i2, i3, i4⟩ := ff_K_p k0
    refine ff_run hok hc2 hkp hv hrow k0 hL.1 (by omega) (fun u hfr hr => ?_)
    have hb0 := ff_bar hok B cs ws i3 i4 (by omega)
    apply vc_X2_reduce_12 P _ _ (wo_l37 _ hkp)
    rw [nI_clamp (by omega), hfr.1 47 (by simp), hL.2.1, nI_clamp (by omega)]
    refine ⟨fun q => absurd q (nI_ge hl1 (by omega)), fun _ => ⟨fun q => ?_, fun _ => ⟨nn_inn (by omega) (by decide), nn_inn (by omega) (by decide), nn_inn (by omega) (by decide), fun x4 e4 => ⟨nn_inn (by omega) (by decide), nn_inn (by omega) (by decide), fun x5 e5 => ?_⟩⟩⟩⟩
    · rw [nn_l_eq0 (nn_L_of 16777217 (by decide) hb0.1 hb0.2)] at q
      exact absurd q i1
    · rw [hfr.2 (37 + 1 * ws.length) (by simp; omega), hL.2.2 c1 (by omega)] at e4
      rw [hr c1 (by omega)] at e5
      subst e4; subst e5
      refine ff_in (w := u) hok (by rw [hfr.1 35 (by simp)]; exact hc2) hkp ⟨k0, k1, k2, k3⟩ hv hl1 (fun c' hc' => ?_) (fun u2 hf2 hr2 => kk u2 (wo_fr_tr hfr hf2) hr2) (gd_m g + 1) 0 u (by omega) (wo_fr_rf _ _ _) (fun c' h => absurd h (Nat.not_lt_zero _)) (fun c' _ h2 => hr c' h2)
      rw [hfr.2 (37 + 1 * ws.length) (by simp; omega)]
      exact hL.2.2 c' hc'
  | [], _ :: _, h, _, _, _ => by cases h
  | _ :: _, [], h, _, _, _ => by cases h
theorem c_reduce {P : wo_T → Prop} (hok : gd_ok g) (hc2 : w.1 35 2 = nI (gd_m g)) {v : Nat} (hv : v < 10) {ws cs : List Nat} (hK : ff_K g B ws cs) (hL : ff_L g B w ws cs) (hl : ws.length < 10) (hrow : ∀ c, c ≤ gd_m g → w.2 (37 + 1 * ws.length) c = nn_l (ff_p g B [c] [v]))
    (k : ∀ u, wo_fr [] [37 + 1 * ws.length] w u → (∀ c, c ≤ gd_m g → u.2 (37 + 1 * ws.length) c = nn_l (ff_p g B (c :: cs) (v :: ws))) → P u) : jj_Cv K mX2_reduce [.ref 35, .int (nI ws.length)] w P := by
  apply en_X2_reduce
  rw [nI_clamp (by omega)]
  refine ⟨nn_inn hl (by decide), ff_run hok hc2 hl hv hrow hK hL (Nat.le_refl _) (fun u hfr hr => ?_)⟩
  apply vc_X2_reduce_12 P _ _ (wo_l37 _ hl)
  exact ⟨fun _ => k u hfr hr, fun q => absurd (nI_le (Nat.le_refl _) (by omega)) q⟩
theorem c_other {P : Int32 → wo_T → Prop} (hm : gd_m g ≤ 10) (hc2 : w.1 35 2 = nI (gd_m g)) {j : Nat} (hj : j < 10) {R : Nat → Int} (hb : ∀ c, c ≤ gd_m g → nn_L (R c)) (hrow : ∀ c, c ≤ gd_m g → w.2 (37 + 1 * j) c = nn_l (R c))
    (k : ∀ c, c ≤ gd_m g → (∀ c', c' < c → R c' = 0) → (c < gd_m g → R c ≠ 0) → P (nI c) w) : jj_Ci K mX2_firstOther [.ref 35, .ref (37 + 1 * j)] w P := by
  apply en_X2_firstOther P _ (wo_l37 _ hj)
  have loop : ∀ d c, c + d = gd_m g → (∀ c', c' < c → R c' = 0) → jj_J K mX2_firstOther (jj_Ri P) 2 [(0, .ref 35), (1, .ref (37 + 1 * j)), (2, .int (nI c))] [] w := by
    intro d
    induction d with
    | zero =>
      intro c hc hz
      apply vc_X2_firstOther_2 P _ (wo_l37 _ hj) _ (wo_l37 _ hj)
      rw [hc2]
      exact ⟨fun _ => k c (by omega) hz (fun q => absurd q (by omega)), fun q => absurd (nI_le (by omega) (by omega)) q⟩
    | succ d ih =>
      intro c hc hz
      have hcm : c < gd_m g := by omega
      apply vc_X2_firstOther_2 P _ (wo_l37 _ hj) _ (wo_l37 _ hj)
      rw [hc2, nI_clamp (by omega), nn_ad1, hrow c (by omega), nn_l_eq0 (hb c (by omega))]
      refine ⟨fun q => absurd q (nI_ge hcm (by omega)), fun _ => ⟨nn_inn (by omega) (by decide), fun hn => k c (by omega) hz (fun _ => hn), fun h0 => ih (c + 1) (by omega) (fun c' h1 => ?_)⟩⟩
      rcases Nat.lt_or_ge c' c with h2 | h2
      · exact hz c' h2
      · have e : c' = c := by omega
        subst e
        exact h0
  exact loop (gd_m g) 0 (by omega) (fun c' h => absurd h (Nat.not_lt_zero _))
end
section
variable {K : jj_K} {w : wo_T}
theorem c_flay {P : wo_T → Prop} (h : gc_ok w) {B : Nat} (hB : B < 1024) (hc2 : w.1 35 2 = nI (gd_m (gc_g w))) {j v : Nat} (hj : j < 10) (hv : v < 2 * (gc_g w).1) (hf : gd_free (gc_g w) v = true)
    (k : ∀ u, wo_fr [] [37 + 1 * j] w u → (∀ c, c ≤ gd_m (gc_g w) → u.2 (37 + 1 * j) c = nn_l (ff_p (gc_g w) B [c] [v])) → P u) : jj_Cv K mX2_lay [.ref 35, .ref (37 + 1 * j), .ref 1, .int (nI B), .int (nI v)] w P := by
  have hn := gc_n h
  have hm := gc_m h
  apply en_X2_lay P _ (wo_l37 _ hj)
  have hp : ∀ c, c ≤ gd_m (gc_g w) → ff_p (gc_g w) B [c] [v] = tb_v (gc_g w) B c v := fun c hc => by
    show xb_p 11 [c] [ff_r (gc_g w) B v] = _
    rw [xb_p1, if_pos (by omega)]
    unfold ff_r
    rw [if_pos hc]
  have loop : ∀ d c u, c + d = gd_m (gc_g w) → wo_fr [] [37 + 1 * j] w u → (∀ c', c' < c → u.2 (37 + 1 * j) c' = nn_l (ff_p (gc_g w) B [c'] [v])) → jj_J K mX2_lay (jj_Rv P) 3 [(0, .ref 35), (1, .ref (37 + 1 * j)), (2, .ref 1), (3, .int (nI B)), (4, .int (nI v)), (5, .int (nI c))] [] u := by
    intro d
    induction d with
    | zero =>
      intro c u hc hfr hrow
      have ec : c = gd_m (gc_g w) := by omega
      subst ec
      have hok : gc_ok u := gc_ok_eq (fun b hb => hfr.1 b (by simp)) h
      have hg : gc_g u = gc_g w := gc_g_eq (fun b hb => hfr.1 b (by simp))
      apply vc_X2_lay_3 P _ (wo_l37 _ hj) _ (wo_l37 _ hj)
      rw [hfr.1 35 (by simp), hc2, nI_clamp (by omega), nI_clamp (by omega), gc_load hok (by rw [hg]; exact hv), hg]
      refine ⟨fun _ => ⟨nn_inn (by omega) (by decide), nn_inn (by omega) (by decide), k _ (wo_fr_l hfr (by simp) _ _) (fun c hc1 => ?_)⟩, fun q => absurd (nI_le (Nat.le_refl _) (by omega)) q⟩
      rcases Nat.lt_or_ge c (gd_m (gc_g w)) with h2 | h2
      · rw [wo_l_nk (by omega)]; exact hrow c h2
      · have e2 : c = gd_m (gc_g w) := by omega
        subst e2
        rw [wo_l_eq, hp _ (Nat.le_refl _)]
        simp [tb_v, gd_rhs, hf]
    | succ d ih =>
      intro c u hc hfr hrow
      have hcm : c < gd_m (gc_g w) := by omega
      have hok : gc_ok u := gc_ok_eq (fun b hb => hfr.1 b (by simp)) h
      have hg : gc_g u = gc_g w := gc_g_eq (fun b hb => hfr.1 b (by simp))
      apply vc_X2_lay_3 P _ (wo_l37 _ hj) _ (wo_l37 _ hj)
      rw [hfr.1 35 (by simp), hc2, nI_clamp (n := c) (by omega), nn_bit0 (by omega) (by omega), nn_ad1]
      have next : ∀ z : Int64, z = nn_l (tb_v (gc_g w) B c v) → jj_J K mX2_lay (jj_Rv P) 3 [(0, .ref 35), (1, .ref (37 + 1 * j)), (2, .ref 1), (3, .int (nI B)), (4, .int (nI v)), (5, .int (nI (c + 1)))] [] (wo_l u (37 + 1 * j) c z) := by
        intro z hz
        refine ih (c + 1) _ (by omega) (wo_fr_l hfr (by simp) _ _) (fun c' hc' => ?_)
        rcases Nat.lt_or_ge c' c with h1 | h1
        · rw [wo_l_nk (by omega)]; exact hrow c' h1
        · have e : c' = c := by omega
          subst e
          rw [wo_l_eq, hp _ (by omega)]; exact hz
      refine ⟨fun q => absurd q (nI_ge hcm (by omega)), fun _ => ⟨fun hb => ?_, fun hb => ?_⟩⟩
      · refine c_brought hok c v (by rw [hg]; exact hcm) (by omega) ⟨nn_inn (by omega) (by decide), ?_⟩
        rw [hg, nn_i_l (gd_br_I h.1 hcm v)]
        refine next _ ?_
        have hb2 : B.testBit c = true := by
          cases hq : B.testBit c with
          | true => rfl
          | false => exact absurd hq hb
        simp [tb_v, Nat.ne_of_lt hcm, hb2, gd_col, hf]
      · refine ⟨nn_inn (by omega) (by decide), next _ ?_⟩
        simp [tb_v, Nat.ne_of_lt hcm, hb, nn_l_0]
  exact loop (gd_m (gc_g w)) 0 w (by omega) (wo_fr_rf _ _ _) (fun c' h => absurd h (Nat.not_lt_zero _))
def ff_ls : List Nat := [37, 38, 39, 40, 41, 42, 43, 44, 45, 46]
theorem ff_ls_in {j : Nat} (h : j < 10) : 37 + 1 * j ∈ ff_ls := by
  have : ∀ j, j < 10 → 37 + 1 * j ∈ ff_ls := by decide
  exact this j h
theorem c_first {P : Int32 → wo_T → Prop} (h : gc_ok w) {B : Nat} (hB : B < 2 ^ gd_m (gc_g w)) (k : ∀ f u, gd_flt (gc_g w) B f → wo_fr [35, 47] ff_ls w u → P (nn_i f) u) : jj_Ci K mX2_first [.ref 35, .ref 1, .int (nI B)] w P := by
  have hn := gc_n h
  have hm := gc_m h
  have hB2 : B < 1024 := Nat.lt_of_lt_of_le hB (by
    have : (2 : Nat) ^ gd_m (gc_g w) ≤ 2 ^ 10 := Nat.pow_le_pow_right (by decide) hm
    omega)
  apply en_X2_first
  refine c_pairs h ?_
  have loop : ∀ d v u ws cs, v + d = 2 * (gc_g w).1 → wo_fr [35, 47] ff_ls w u → u.1 35 2 = nI (gd_m (gc_g w)) → ff_K (gc_g w) B ws cs → ff_L (gc_g w) B u ws cs → ws.length ≤ v → (∀ x, x ∈ ws → x < v) → (∀ x : Nat → Int, (∀ z, z ∈ ws → xa_d 11 (ff_r (gc_g w) B z) x = 0) → ∀ z, z < v → xa_d 11 (ff_r (gc_g w) B z) x = 0) →
      jj_J K mX2_first (jj_Ri P) 13 [(0, .ref 35), (1, .ref 1), (2, .int (nI B)), (3, .int (nI ws.length)), (4, .int (nI v))] [] u := by
    intro d
    induction d with
    | zero =>
      intro v u ws cs hv hfr h352 hK hL hlen hlt hdep
      apply vc_X2_first_13
      rw [hfr.1 1 (by simp), h.2.1, nn_two]
      refine ⟨fun _ => k (-1) u (Or.inl ⟨rfl, ?_⟩) hfr, fun q => absurd (nI_le (by omega) (by omega)) q⟩
      refine ff_sat h.1 hB hK (fun x hx z hz => ?_)
      rcases Nat.lt_or_ge z v with h1 | h1
      · exact hdep x hx z h1
      · have hf : gd_free (gc_g w) z = false := by
          unfold gd_free
          simp; intro q; omega
        rw [gd_d_s]
        exact gd_s_z 11 (fun c _ => by simp [ff_r_held hf])
    | succ d ih =>
      intro v u ws cs hv hfr h352 hK hL hlen hlt hdep
      have hv2 : v < 2 * (gc_g w).1 := by omega
      have hok : gc_ok u := gc_ok_eq (fun b hb => hfr.1 b (by simp; omega)) h
      have hg : gc_g u = gc_g w := gc_g_eq (fun b hb => hfr.1 b (by simp; omega))
      apply vc_X2_first_13
      rw [hfr.1 1 (by simp), h.2.1, nn_two]
      refine ⟨fun q => absurd q (nI_ge hv2 (by omega)), fun _ => ?_⟩
      refine c_isFree hok v (by rw [hg]; exact hv2) ?_
      rw [hg]
      simp only [nn_ad1]
      cases hf : gd_free (gc_g w) v with
      | false =>
        refine ⟨fun q => absurd rfl q, fun _ => ih (v + 1) u ws cs (by omega) hfr h352 hK hL (by omega) (fun x hx => Nat.lt_succ_of_lt (hlt x hx)) (fun x hx z hz => ?_)⟩
        rcases Nat.lt_or_ge z v with h1 | h1
        · exact hdep x hx z h1
        · have e : z = v := by omega
          subst e
          rw [gd_d_s]
          exact gd_s_z 11 (fun c _ => by simp [ff_r_held hf])
      | true =>
        refine ⟨fun _ => ⟨nn_inn (by omega) (by decide), ?_⟩, fun q => absurd q (by decide)⟩
        rw [nI_clamp (by omega)]
        refine c_flay hok hB2 (by rw [hg]; exact h352) (by omega) (by rw [hg]; exact hv2) (by rw [hg]; exact hf) (fun u1 hf1 hr1 => ?_)
        rw [hg] at hr1
        have hL1 : ff_L (gc_g w) B u1 ws cs := ff_L_fr (w := u) (fun j hj => ⟨by rw [hf1.1 47 (by simp)], hf1.2 _ (by simp; omega)⟩) hL
        refine c_reduce h.1 (by rw [hf1.1 35 (by simp)]; exact h352) (v := v) (by omega) hK hL1 (by omega) hr1 (fun u2 hf2 hr2 => ⟨nn_inn (by omega) (by decide), ?_⟩)
        have hf02 : wo_fr [] [37 + 1 * ws.length] u u2 := wo_fr_tr hf1 hf2
        have hL2 : ff_L (gc_g w) B u2 ws cs := ff_L_fr (w := u) (fun j hj => ⟨by rw [hf02.1 47 (by simp)], hf02.2 _ (by simp; omega)⟩) hL
        have hfr2 : wo_fr [35, 47] ff_ls w u2 := wo_fr_tr hfr (wo_fr_up hf02 (fun b hb => by cases hb) (fun b hb => by
          rw [List.mem_singleton.mp hb]; exact ff_ls_in (by omega)))
        have h352' : u2.1 35 2 = nI (gd_m (gc_g w)) := by rw [hf02.1 35 (by simp)]; exact h352
        obtain ⟨i1, i2, i3, i4⟩ := ff_K_p hK
        have hbb : ∀ c, c ≤ gd_m (gc_g w) → nn_L (ff_p (gc_g w) B (c :: cs) (v :: ws)) := fun c _ => by
          have := ff_all h.1 B (c :: cs) (v :: ws) (fun z hz => by
            rcases List.mem_cons.mp hz with rfl | hz
            · omega
            · exact i4 z hz) (by simp; omega)
          exact nn_L_of 68719476736 (by decide) this.1 this.2
        refine c_other (R := fun c => ff_p (gc_g w) B (c :: cs) (v :: ws)) hm h352' (by omega) hbb hr2 (fun c hc hz hnz => ?_)
        rw [h352', nI_clamp (n := gd_m (gc_g w)) (by omega)]
        refine ⟨fun hge => ⟨nn_inn (by omega) (by decide), nn_inn (by omega) (by decide), ?_⟩, fun hlt1 => ⟨nn_inn (by omega) (by decide), ?_⟩⟩
        · have ec : c = gd_m (gc_g w) := by
            rcases Nat.lt_or_ge c (gd_m (gc_g w)) with h1 | h1
            · exact absurd hge (nI_ge h1 (by omega))
            · omega
          subst ec
          rw [hr2 _ (Nat.le_refl _), nn_l_eq0 (hbb _ (Nat.le_refl _))]
          refine ⟨fun h0 => ih (v + 1) u2 ws cs (by omega) hfr2 h352' hK hL2 (by omega) (fun x hx => Nat.lt_succ_of_lt (hlt x hx)) (fun x hx z hzv => ?_), fun hn0 => ?_⟩
          · rcases Nat.lt_or_ge z v with h1 | h1
            · exact hdep x hx z h1
            · have e : z = v := by omega
              subst e
              refine ff_dep hK (fun c' hc' => ?_) x hx
              rcases Nat.lt_or_ge c' (gd_m (gc_g w)) with h2 | h2
              · exact hz c' h2
              · have e : c' = gd_m (gc_g w) := by omega
                rw [e]; exact h0
          · rw [nn_nI]
            refine k (v : Int) u2 (Or.inr ⟨v, by omega, rfl, ff_unt h.1 hB hlt (fun c' hc' => hz c' hc') hn0, fun v' hv' => ?_⟩) hfr2
            exact ff_sat h.1 hB hK (fun x hx z hzv => hdep x hx z (by omega))
        · have hcm : c < gd_m (gc_g w) := by
            rcases Nat.lt_or_ge c (gd_m (gc_g w)) with h1 | h1
            · exact h1
            · exact absurd (nI_le h1 (by omega)) hlt1
          refine ih (v + 1) _ (v :: ws) (c :: cs) (by omega) (wo_fr_i hfr2 (by simp) _ _) (by rw [wo_i_nk (by omega)]; exact h352') ⟨hK, hcm, by omega, hnz hcm⟩ ⟨ff_L_fr (w := u2) (fun j hj => ⟨wo_i_nk (by omega), rfl⟩) hL2, wo_i_eq, fun c' hc' => hr2 c' hc'⟩ (by simp; omega) (fun x hx => ?_) (fun x hx z hzv => ?_)
          · rcases List.mem_cons.mp hx with rfl | hx
            · omega
            · exact Nat.lt_succ_of_lt (hlt x hx)
          · rcases Nat.lt_or_ge z v with h1 | h1
            · exact hdep x (fun z hz => hx z (List.mem_cons_of_mem _ hz)) z h1
            · have e : z = v := by omega
              subst e
              exact hx z List.mem_cons_self
  exact loop (2 * (gc_g w).1) 0 _ [] [] (by omega) (wo_fr_i (wo_fr_rf _ _ _) (by simp) _ _) wo_i_eq trivial trivial (Nat.le_refl _) (fun x hx => by cases hx) (fun x _ z hz => absurd hz (Nat.not_lt_zero _))
end

/-! ===== stretch, work, proves, shift, info, pair ===== -/
def isIn (a b c : Int32) : Bool := decide (¬ a < b) && decide (¬ c < a)
theorem isIn_ax {a : Int32} (h : isIn a 0 1 = true) : ∃ ax : Nat, ax < 2 ∧ a = nI ax := by
  unfold isIn at h
  simp only [Bool.and_eq_true, decide_eq_true_eq] at h
  rcases pk_ix a (n := 2) (by decide) with q | q | ⟨j, hj, e⟩
  · exact absurd q h.1
  · exfalso
    apply h.2
    rw [Int32.lt_iff_toInt_lt]
    have := Int32.le_iff_toInt_le.mp q
    have e2 : (nI 2).toInt = 2 := rfl
    have e1 : (1 : Int32).toInt = 1 := rfl
    rw [e2] at this
    rw [e1]
    omega
  · exact ⟨j, hj, e⟩
theorem isIn_b {a : Int32} {x y : Int} (hx : nn_I x) (hy : nn_I y) (h : isIn a (nn_i x) (nn_i y) = true) : x ≤ a.toInt ∧ a.toInt ≤ y := by
  unfold isIn at h
  simp only [Bool.and_eq_true, decide_eq_true_eq] at h
  rw [nn_i_alt hx, nn_i_lta hy] at h
  omega
noncomputable def pr (g : gd_T) (B : Nat) (H : Nat → Int) : Int32 := @ite _ (∃ k, k < gd_m g ∧ B.testBit k = true ∧ 12 * gd_quad g k < ((st g H k).natAbs : Int)) (Classical.propDecidable _) 0 (match sb g B with
  | none => 1
  | some S => if wk g H 10 * (sv g S).2 = 12 * (sv g S).1 then 2 else 1)
def inf (X Y Hd Ld Sf : Nat → Int32) (p : Nat) (c : Int32) : Int32 := if c = 0 then X p else if c = 1 then Y p else if c = 2 then Hd p else if c = 3 then Ld (2 * p) else if c = 4 then Ld (2 * p + 1) else if c = 5 then Sf (2 * p) else if c = 6 then Sf (2 * p + 1) else -2147483648
def pai (g : gd_T) (B k : Nat) (c : Int32) : Int32 := if c = 0 then nI (gd_les k) else if c = 1 then nI (gd_gre k) else if c = 2 then nn_i (gd_quad g k) else if c = 3 then (if B.testBit k then 1 else 0) else -2
theorem xs_vol {W a b n d : Int} (hb : 0 < b) (hd : 0 < d) (e : a * d = n * b) : W * b = 12 * a ↔ W * d = 12 * n := by
  constructor
  · intro h
    apply Int.eq_of_mul_eq_mul_right (show b ≠ 0 by omega)
    have z1 : W * d * b = (W * b) * d := by grind
    have z2 : 12 * n * b = 12 * (n * b) := by grind
    rw [z1, h, z2, ← e]; grind
  · intro h
    apply Int.eq_of_mul_eq_mul_right (show d ≠ 0 by omega)
    have z1 : W * b * d = (W * d) * b := by grind
    have z2 : 12 * a * d = 12 * (a * d) := by grind
    rw [z1, h, z2, e]; grind
section
variable {K : jj_K} {w : wo_T}
theorem c_isWithin {P : Int32 → wo_T → Prop} (a b c : Int32) (k : P (if isIn a b c then 1 else 0) w) : jj_Ci K mX6_isWithin [.int a, .int b, .int c] w P := by
  apply en_X6_isWithin
  unfold isIn at k
  exact ⟨fun h => by simpa [h] using k, fun h => ⟨fun h2 => by simpa [h2] using k, fun h2 => by simpa [h, h2] using k⟩⟩
theorem m_isIn {P : Int32 → wo_T → Prop} (a b c : Int32) (k : P (if isIn a b c then 1 else 0) w) : jj_Ci K mX7_in [.int a, .int b, .int c] w P := by
  apply en_X7_in
  unfold isIn at k
  exact ⟨fun h => by simpa [h] using k, fun h => ⟨fun h2 => by simpa [h2] using k, fun h2 => by simpa [h, h2] using k⟩⟩
theorem c_stretch {P : Int64 → wo_T → Prop} (h : gc_ok w) (hH : h_ok (hc w)) (a c : Int32) (k1 : ∀ j, j < gd_m (gc_g w) → a = nI j → isP c = true → P (fp (fr_n (st (gc_g w) (hc w) j) 12, fr_d (st (gc_g w) (hc w) j) 12) c) w) (k0 : (∀ j, j < gd_m (gc_g w) → ¬ a = nI j) ∨ isP c = false → P (noL (-2)) w) : jj_Cl K mX6_stretch [.ref 0, .int a, .int c] w P := by
  apply en_X6_stretch
  refine c_hasPair h a (fun j hj e => ⟨fun q => absurd q (by decide), fun _ => c_isPart c ?_⟩) (fun hno => ⟨fun _ => c_asLong (-2) (k0 (Or.inl hno)), fun q => absurd rfl q⟩)
  cases hp : isP c with
  | false => exact ⟨fun q => absurd rfl q, fun _ => c_asLong (-2) (k0 (Or.inr hp))⟩
  | true =>
    have hb := st_b h.1 hH hj
    subst e
    refine ⟨fun _ => c_stretchParts h hH hj ?_, fun q => absurd q (by decide)⟩
    exact c_lowest (B := 12) ⟨by omega, by omega⟩ ⟨by decide, by decide⟩ (by decide) c (k1 j hj rfl hp)
theorem m_stretch {P : Int64 → wo_T → Prop} (h : gm_ok w) (hH : h_ok (hm w)) (a c : Int32) (k1 : ∀ j, j < gd_m (gm_g w) → a = nI j → isP c = true → P (fp (fr_n (st (gm_g w) (hm w) j) 12, fr_d (st (gm_g w) (hm w) j) 12) c) w) (k0 : (∀ j, j < gd_m (gm_g w) → ¬ a = nI j) ∨ isP c = false → P (noL (-2)) w) : jj_Cl K mX7_stretch [.ref 58, .int a, .int c] w P := by
  apply en_X7_stretch
  refine m_isPair h a (fun j hj e => ⟨fun q => absurd q (by decide), fun _ => m_isP c ?_⟩) (fun hno => ⟨fun _ => m_no (-2) (k0 (Or.inl hno)), fun q => absurd rfl q⟩)
  cases hp : isP c with
  | false => exact ⟨fun _ => m_no (-2) (k0 (Or.inr hp)), fun q => absurd rfl q⟩
  | true =>
    have hb := st_b h.1 hH hj
    subst e
    refine ⟨fun q => absurd q (by decide), fun _ => m_stretchOf h hj ?_⟩
    rw [nn_i_l ⟨by omega, by omega⟩]
    exact m_partOf (B := 12) ⟨by omega, by omega⟩ ⟨by decide, by decide⟩ (by decide) c (k1 j hj rfl hp)
theorem c_work {P : Int64 → wo_T → Prop} (h : gc_ok w) (hH : h_ok (hc w)) (c : Int32) (k : P (if isP c then fp (fr_n (wk (gc_g w) (hc w) 10) 12, fr_d (wk (gc_g w) (hc w) 10) 12) c else noL (-2)) w) : jj_Cl K mX6_work [.ref 0, .int c] w P := by
  apply en_X6_work
  have hb := wk_b h.1 hH 10
  refine c_isPart c ?_
  cases hp : isP c with
  | false => rw [hp] at k; exact ⟨fun q => absurd rfl q, fun _ => c_asLong (-2) k⟩
  | true =>
    rw [hp] at k
    refine ⟨fun _ => c_workParts h hH ?_, fun q => absurd q (by decide)⟩
    exact c_lowest (B := 12) ⟨by omega, by omega⟩ ⟨by decide, by decide⟩ (by decide) c k
theorem m_work {P : Int64 → wo_T → Prop} (h : gm_ok w) (hH : h_ok (hm w)) (c : Int32) (k : P (if isP c then fp (fr_n (wk (gm_g w) (hm w) 10) 12, fr_d (wk (gm_g w) (hm w) 10) 12) c else noL (-2)) w) : jj_Cl K mX7_work [.ref 58, .int c] w P := by
  apply en_X7_work
  have hb := wk_b h.1 hH 10
  refine m_isP c ?_
  cases hp : isP c with
  | false => rw [hp] at k; exact ⟨fun _ => m_no (-2) k, fun q => absurd rfl q⟩
  | true =>
    rw [hp] at k
    refine ⟨fun q => absurd q (by decide), fun _ => m_workNow h ?_⟩
    rw [nn_i_l ⟨by omega, by omega⟩]
    exact m_partOf (B := 12) ⟨by omega, by omega⟩ ⟨by decide, by decide⟩ (by decide) c k
theorem cq_h {u : wo_T} (h : cq w u) : hc u = hc w := by
  unfold hc
  rw [h.1.1 5 (by decide)]
theorem mq_h {u : wo_T} (h : mq w u) : hm u = hm w := by
  unfold hm
  rw [h.1.1 63 (by decide)]
theorem c_proves {P : Int32 → wo_T → Prop} (h : ci w) (hH : h_ok (hc w)) (k : ∀ u, cq w u → ci u → P (pr (gc_g w) (cb w) (hc w)) u) : jj_Ci K mX6_proves [.ref 0] w P := by
  have hm := gc_m h.1
  obtain ⟨e1, e2⟩ := ev_lt hm
  have hb := h.2.1.2
  have hwb := wk_b h.1.1 hH 10
  apply en_X6_proves
  have loop : ∀ d j, j + d = 10 → (∀ i, i < j → ¬ (i < gd_m (gc_g w) ∧ (cb w).testBit i = true ∧ 12 * gd_quad (gc_g w) i < ((st (gc_g w) (hc w) i).natAbs : Int))) → jj_J K mX6_proves (jj_Ri P) 2 [(0, .ref 0), (1, .int (nI j))] [] w := by
    intro d
    induction d with
    | zero =>
      intro j hj hno
      have e : j = 10 := by omega
      subst e
      apply vc_X6_proves_2
      refine ⟨fun _ => c_bestNow h (fun u v L hf hv => ?_), fun q => absurd (by decide) q⟩
      have kk := k u hf.1 (cf_ci h hf)
      unfold pr at kk
      rw [if_neg (fun ⟨i, a, b⟩ => hno i (by omega) ⟨a, b⟩)] at kk
      rcases hv with ⟨e', hn⟩ | ⟨i, S, e', hi, hs⟩
      · subst e'
        rw [hn] at kk
        exact ⟨fun q => absurd q nn_neg1, fun _ => kk⟩
      · subst e'
        rw [hs] at kk
        replace kk : P (if wk (gc_g w) (hc w) 10 * (sv (gc_g w) S).2 = 12 * (sv (gc_g w) S).1 then 2 else 1) u := kk
        obtain ⟨i1, i2⟩ := ci_ix h.1.1 hf.2.2.1 hi
        obtain ⟨a, b, -, f2, f3, hv, a0, a1, b0, b1⟩ := hf.2.2.1.2.1 i S hi
        obtain ⟨s1, s2, s3⟩ := sv_spec (sb_brs hs).1.1 hv
        refine ⟨fun _ => c_workParts (cq_ok hf.1 h.1) (by rw [cq_h hf.1]; exact hH) ?_, fun q => absurd (nI_pos' (by omega)) q⟩
        have f2' : u.2 25 i = nn_l a := f2
        have f3' : u.2 26 i = nn_l b := f3
        rw [cq_g hf.1, cq_h hf.1, nI_clamp (by omega), f2', f3', nn_l_mul]
        have e12 : (12 : Int64) = nn_l 12 := rfl
        have m1 := xs_mul (a := wk (gc_g w) (hc w) 10) (b := b) (A := 100000) (B := 2097153) (by omega) (by omega) (by omega) b1
        rw [e12, nn_l_mul, nn_l_eq (nn_L_of _ (by decide) m1.1 m1.2) ⟨by omega, by omega⟩, xs_vol b0 s1 s3]
        refine ⟨nn_inn i1 (by decide), nn_inn i1 (by decide), fun q => ?_, fun q => ?_⟩
        · rw [if_neg q] at kk; exact kk
        · rw [if_pos q] at kk; exact kk
    | succ d ih =>
      intro j hj hno
      apply vc_X6_proves_2
      rw [nn_ad1]
      have nx : ¬ (j < gd_m (gc_g w) ∧ (cb w).testBit j = true ∧ 12 * gd_quad (gc_g w) j < ((st (gc_g w) (hc w) j).natAbs : Int)) → jj_J K mX6_proves (jj_Ri P) 2 [(0, .ref 0), (1, .int (nI (j + 1)))] [] w := fun hn => ih (j + 1) (by omega) (fun i hi => by
        rcases Nat.lt_or_ge i j with q | q
        · exact hno i q
        · have e : i = j := by omega
          rw [e]; exact hn)
      refine ⟨fun q => absurd q (nI_ge (b := 10) (by omega) (by decide)), fun _ => c_isBar h (nI j) (fun j' hj' e' hbit => ⟨fun q => absurd q (by decide), fun _ => ?_⟩) (fun hnb => ⟨fun _ => nx (fun ⟨a, b, _⟩ => by rw [hnb j a rfl] at b; cases b), fun q => absurd rfl q⟩)⟩
      have ej := (nI_eq (by omega) (by omega)).mp e'
      rw [← ej] at hj' hbit
      have hsb := st_b h.1.1 hH hj'
      have hq32 := gd_quad_le h.1.1 hj'
      have hq0 := gd_quad_nn (gc_g w) j
      refine c_stretchParts h.1 hH hj' ⟨nn_inn (by omega) (by decide), ?_⟩
      have e12 : (12 : Int32) = nn_i 12 := rfl
      rw [nI_clamp (by omega), (h.1.2.2.2 j hj').2.2, e12, nn_i_mul, nn_i_l ⟨by omega, by omega⟩]
      have habs : (if 0 < nn_l (st (gc_g w) (hc w) j) then nn_l (st (gc_g w) (hc w) j) else -nn_l (st (gc_g w) (hc w) j)) = nn_l ((st (gc_g w) (hc w) j).natAbs : Int) := by
        have hlt : 0 < nn_l (st (gc_g w) (hc w) j) ↔ 0 < st (gc_g w) (hc w) j := nn_l_lt (a := 0) (by constructor <;> decide) ⟨by omega, by omega⟩
        by_cases q : 0 < st (gc_g w) (hc w) j
        · rw [if_pos (hlt.mpr q)]
          congr 1
          omega
        · rw [if_neg (fun z => q (hlt.mp z)), nn_l_neg]
          congr 1
          omega
      rw [habs, nn_l_le ⟨by omega, by omega⟩ ⟨by omega, by omega⟩]
      refine ⟨fun q => nx (fun ⟨_, _, z⟩ => by omega), fun q => ?_⟩
      have kk := k w (cq_rf w) h
      unfold pr at kk
      rw [if_pos ⟨j, hj', hbit, by omega⟩] at kk
      exact kk
  exact loop 10 0 rfl (fun i hi => absurd hi (Nat.not_lt_zero _))
theorem m_provesNow {P : Int32 → wo_T → Prop} (h : mi w) (hH : h_ok (hm w)) (k : ∀ u, mq w u → mi u → P (pr (gm_g w) (mb w) (hm w)) u) : jj_Ci K mX7_provesNow [.ref 58] w P := by
  have hm' := gm_m h.1
  obtain ⟨e1, e2⟩ := ev_lt hm'
  have hb := h.2.1.2
  have hwb := wk_b h.1.1 hH 10
  apply en_X7_provesNow
  have loop : ∀ d j, j + d = gd_m (gm_g w) → (∀ i, i < j → ¬ (i < gd_m (gm_g w) ∧ (mb w).testBit i = true ∧ 12 * gd_quad (gm_g w) i < ((st (gm_g w) (hm w) i).natAbs : Int))) → jj_J K mX7_provesNow (jj_Ri P) 2 [(0, .ref 58), (1, .int (nI j))] [] w := by
    intro d
    induction d with
    | zero =>
      intro j hj hno
      have e : j = gd_m (gm_g w) := by omega
      subst e
      apply vc_X7_provesNow_2
      refine m_pairs h.1 ⟨fun _ => ?_, fun q => absurd (nI_le (Nat.le_refl _) (by omega)) q⟩
      rw [h.2.1.1]
      refine m_best h hb (fun u hq hu hT => ?_)
      have kk := k u hq hu
      unfold pr at kk
      rw [if_neg (fun ⟨i, a, b⟩ => hno i a ⟨a, b⟩)] at kk
      cases hs : sb (gm_g w) (mb w) with
      | none =>
        rw [hs] at kk
        exact ⟨fun _ => kk, fun q => absurd rfl q⟩
      | some S =>
        rw [hs] at kk
        replace kk : P (if wk (gm_g w) (hm w) 10 * (sv (gm_g w) S).2 = 12 * (sv (gm_g w) S).1 then 2 else 1) u := kk
        obtain ⟨f1, f2, a0, a1, b0, b1⟩ := mt_get hT hs
        have hS := (sb_brs hs).2.1
        refine ⟨fun q => absurd q (eb_ne (by omega)), fun _ => m_workNow hu.1 ?_⟩
        have c1 : (eb (some S)).toNatClampNeg = S := nI_clamp (by omega)
        have v1 : vp_in (eb (some S)) 1024 := nn_inn (by omega) (by decide)
        have e12 : (12 : Int64) = nn_l 12 := rfl
        have m1 := xs_mul (a := wk (gm_g w) (hm w) 10) (b := (sv (gm_g w) S).2) (A := 100000) (B := 67108864) (by omega) (by omega) (by omega) b1
        rw [mq_g hq, mq_h hq, c1, f1, f2, nn_i_l ⟨by omega, by omega⟩, e12, nn_l_mul, nn_l_mul, nn_l_eq (nn_L_of _ (by decide) m1.1 m1.2) ⟨by omega, by omega⟩]
        refine ⟨v1, v1, fun q => ?_, fun q => ?_⟩
        · rw [if_neg q] at kk; exact kk
        · rw [if_pos q] at kk; exact kk
    | succ d ih =>
      intro j hj hno
      have hjm : j < gd_m (gm_g w) := by omega
      have hsb := st_b h.1.1 hH hjm
      have hq32 := gd_quad_le h.1.1 hjm
      have hq0 := gd_quad_nn (gm_g w) j
      apply vc_X7_provesNow_2
      refine m_pairs h.1 ⟨fun q => absurd q (nI_ge hjm (by omega)), fun _ => m_stretchOf h.1 hjm ?_⟩
      rw [nn_ad1]
      have nx : ¬ (j < gd_m (gm_g w) ∧ (mb w).testBit j = true ∧ 12 * gd_quad (gm_g w) j < ((st (gm_g w) (hm w) j).natAbs : Int)) → jj_J K mX7_provesNow (jj_Ri P) 2 [(0, .ref 58), (1, .int (nI (j + 1)))] [] w := fun hn => ih (j + 1) (by omega) (fun i hi => by
        rcases Nat.lt_or_ge i j with q | q
        · exact hno i q
        · have e : i = j := by omega
          rw [e]; exact hn)
      refine m_isBar h (nI j) (fun j' hj' e' hbit => ⟨fun q => absurd q (by decide), fun _ => ?_⟩) (fun hnb => ⟨fun _ => nx (fun ⟨a, b, _⟩ => by rw [hnb j a rfl] at b; cases b), fun q => absurd rfl q⟩)
      have ej := (nI_eq (by omega) (by omega)).mp e'
      rw [← ej] at hbit
      have yes : 12 * gd_quad (gm_g w) j < ((st (gm_g w) (hm w) j).natAbs : Int) → P 0 w := fun z => by
        have kk := k w (mq_rf w) h
        unfold pr at kk
        rw [if_pos ⟨j, hjm, hbit, z⟩] at kk
        exact kk
      have e12 : (12 : Int32) = nn_i 12 := rfl
      refine m_quad (by omega) ?_
      rw [e12, nn_i_mul, nn_i_lt ⟨by omega, by omega⟩ ⟨by omega, by omega⟩]
      refine ⟨fun z => yes (by omega), fun z => m_quad (by omega) ?_⟩
      rw [nn_i_mul, nn_i_neg, nn_i_le ⟨by omega, by omega⟩ ⟨by omega, by omega⟩]
      exact ⟨fun z2 => nx (fun ⟨_, _, z3⟩ => by omega), fun z2 => yes (by omega)⟩
  exact loop (gd_m (gm_g w)) 0 (by omega) (fun i hi => absurd hi (Nat.not_lt_zero _))
theorem m_proves {P : Int32 → wo_T → Prop} (h : mi w) (hH : h_ok (hm w)) (k : ∀ u, mq w u → mi u → P (pr (gm_g w) (mb w) (hm w)) u) : jj_Ci K mX7_proves [.ref 58] w P := by
  apply en_X7_proves
  exact m_provesNow h hH k
theorem c_info {P : Int32 → wo_T → Prop} (h : gc_ok w) (a c : Int32) (k1 : ∀ p, p < (gc_g w).1 → a = nI p → P (inf (fun p => w.1 2 (2 * p)) (fun p => w.1 2 (2 * p + 1)) (w.1 3) (w.1 4) (w.1 5) p c) w) (k0 : (∀ p, p < (gc_g w).1 → ¬ a = nI p) → P (-2147483648) w) : jj_Ci K mX6_info [.ref 0, .int a, .int c] w P := by
  have hn := gc_n h
  apply en_X6_info
  refine c_hasPoint h a (fun p hp e => ⟨fun _ => ?_, fun q => absurd q (by decide)⟩) (fun hno => ⟨fun q => absurd rfl q, fun _ => k0 hno⟩)
  have kk := k1 p hp e
  subst e
  have o1 : nI (2 * p) + 1 = nI (2 * p + 1) := nn_ad1 _
  rw [nn_two, o1, nI_clamp (n := 2 * p) (by omega), nI_clamp (n := 2 * p + 1) (by omega), nI_clamp (n := p) (by omega)]
  have v1 : vp_in (nI (2 * p)) 10 := nn_inn (by omega) (by decide)
  have v2 : vp_in (nI (2 * p + 1)) 10 := nn_inn (by omega) (by decide)
  have v3 : vp_in (nI p) 5 := nn_inn (by omega) (by decide)
  unfold inf at kk
  refine ⟨fun q => ⟨v1, ?_⟩, fun q => ⟨v2, ?_⟩, fun q => ⟨v3, ?_⟩, fun q => ⟨v1, ?_⟩, fun q => ⟨v2, ?_⟩, fun q => ⟨v1, ?_⟩, fun q => ⟨v2, ?_⟩, fun q0 q1 q2 q3 q4 q5 q6 => ?_⟩
  · subst q; exact kk
  · subst q; exact kk
  · subst q; exact kk
  · subst q; exact kk
  · subst q; exact kk
  · subst q; exact kk
  · subst q; exact kk
  · simpa [q0, q1, q2, q3, q4, q5, q6] using kk
theorem c_pair {P : Int32 → wo_T → Prop} (h : ci w) (a c : Int32) (k1 : ∀ j, j < gd_m (gc_g w) → a = nI j → P (pai (gc_g w) (cb w) j c) w) (k0 : (∀ j, j < gd_m (gc_g w) → ¬ a = nI j) → P (-2) w) : jj_Ci K mX6_pair [.ref 0, .int a, .int c] w P := by
  have hm := gc_m h.1
  apply en_X6_pair
  refine c_hasPair h.1 a (fun j hj e => ⟨fun _ => ?_, fun q => absurd q (by decide)⟩) (fun hno => ⟨fun q => absurd rfl q, fun _ => k0 hno⟩)
  have kk := k1 j hj e
  subst e
  rw [nI_clamp (by omega), wo_les_n j (by omega), wo_gre_n j (by omega), (h.1.2.2.2 j hj).2.2]
  have v1 : vp_in (nI j) 10 := nn_inn (by omega) (by decide)
  unfold pai at kk
  refine ⟨fun q => ⟨v1, ?_⟩, fun q => ⟨v1, ?_⟩, fun q => ⟨v1, ?_⟩, fun q => c_isBar h (nI j) (fun j' hj' e' hbit => ⟨fun q => absurd q (by decide), fun _ => ?_⟩) (fun hno => ⟨fun _ => ?_, fun q => absurd rfl q⟩), fun q0 q1 q2 q3 => ?_⟩
  · subst q; exact kk
  · subst q; exact kk
  · subst q; exact kk
  · have ej := (nI_eq (by omega) (by omega)).mp e'
    rw [← ej] at hbit
    rw [hbit] at kk
    subst q; exact kk
  · rw [hno j hj rfl] at kk
    subst q; exact kk
  · simpa [q0, q1, q2, q3] using kk
theorem m_pairOf {P : Int32 → wo_T → Prop} (h : mi w) {j : Nat} (hj : j < gd_m (gm_g w)) {c : Int32} (hc : c = 0 ∨ c = 1 ∨ c = 2 ∨ c = 3) (k : P (pai (gm_g w) (mb w) j c) w) : jj_Ci K mX7_pairOf [.ref 58, .int (nI j), .int c] w P := by
  have hm := gm_m h.1
  obtain ⟨e1, e2⟩ := ev_lt hm
  have hb := h.2.1.2
  apply en_X7_pairOf
  unfold pai at k
  rw [h.2.1.1, nn_bit (by omega) (by omega)]
  refine ⟨fun q0 => ⟨fun q1 => ⟨fun q2 => ?_, fun q2 => ?_⟩, fun q1 => ?_⟩, fun q0 => ?_⟩
  · have q3 : c = 3 := by rcases hc with q | q | q | q
                          · exact absurd q q0
                          · exact absurd q q1
                          · exact absurd q q2
                          · exact q
    subst q3; exact k
  · subst q2; exact m_quad (by omega) k
  · subst q1; exact m_greater (by omega) k
  · subst q0; exact m_lesser (by omega) k
end

/-! ===== the dearest ===== -/
noncomputable def ds1 (g : gd_T) (B N k : Nat) (s : Option (Nat × Option Nat)) : Option (Nat × Option Nat) := match s with
  | some (c, none) => some (c, none)
  | none => if N.testBit k then some (k, sb g (bwo B k)) else none
  | some (c, some W) => if N.testBit k then (match sb g (bwo B k) with
    | none => some (k, none)
    | some T => @ite _ (gd_lt g W T) (Classical.propDecidable _) (some (k, some T)) (some (c, some W))) else some (c, some W)
noncomputable def ds (g : gd_T) (B N : Nat) : Nat → Option (Nat × Option Nat)
  | 0 => none
  | k + 1 => ds1 g B N k (ds g B N k)
def da (s : Option (Nat × Option Nat)) : Int32 := match s with
  | none => -1
  | some (c, _) => nI c
noncomputable def dr (g : gd_T) (B : Nat) : Int32 := match sb g B with
  | none => -3
  | some S => da (ds g B (gd_bits (nd_b g B S) 10) 10)
theorem ds_fin {g : gd_T} {B N j c : Nat} (h : ds g B N j = some (c, none)) : ∀ d, ds g B N (j + d) = some (c, none)
  | 0 => h
  | d + 1 => by
    show ds1 g B N (j + d) (ds g B N (j + d)) = _
    rw [ds_fin h d]; rfl
theorem ds_skip {g : gd_T} {B N k : Nat} (h : N.testBit k = false) : ds g B N (k + 1) = ds g B N k := by
  show ds1 g B N k (ds g B N k) = _
  rcases ds g B N k with _ | ⟨c, _ | W⟩
  · simp [ds1, h]
  · rfl
  · simp [ds1, h]
theorem ds_stop {g : gd_T} {B N m : Nat} (h : ∀ k, m ≤ k → N.testBit k = false) : ∀ d, ds g B N (m + d) = ds g B N m
  | 0 => rfl
  | d + 1 => by
    rw [← Nat.add_assoc, ds_skip (h (m + d) (by omega))]
    exact ds_stop h d
/-- what stands for a state of the search -/
def dc_c (L : List Nat) (k : Nat) (s : Option (Nat × Option Nat)) (a2 a3 : Int32) : Prop := (s = none ∧ a2 = -1) ∨ ∃ c W i, s = some (c, some W) ∧ a2 = nI c ∧ c < k ∧ a3 = nI i ∧ L[i]? = some W
section
variable {K : jj_K} {w : wo_T}
theorem c_dearest {P : Int32 → wo_T → Prop} (h : ci w) (k : ∀ u L, cf w L u → P (dr (gc_g w) (cb w)) u) : jj_Ci K mX6_dearest [.ref 0] w P := by
  have hm := gc_m h.1
  obtain ⟨e1, e2⟩ := ev_lt hm
  have hb := h.2.1.2
  apply en_X6_dearest
  refine c_needed h (fun u L hf => ?_)
  have kk : ∀ u, cf w L u → P (dr (gc_g w) (cb w)) u := fun u hu => k u L hu
  unfold nd
  unfold dr at kk
  cases hs : sb (gc_g w) (cb w) with
  | none =>
    rw [hs] at kk
    exact ⟨fun q => absurd q (show ¬ (0 : Int32) ≤ -3 by decide), fun _ => kk u hf⟩
  | some S =>
    rw [hs] at kk
    replace kk : ∀ u, cf w L u → P (da (ds (gc_g w) (cb w) (gd_bits (nd_b (gc_g w) (cb w) S) 10) 10)) u := kk
    show (0 ≤ nI (gd_bits (nd_b (gc_g w) (cb w) S) 10) → jj_J K mX6_dearest (jj_Ri P) 19 [(0, .ref 0), (1, .int (nI (gd_bits (nd_b (gc_g w) (cb w) S) 10))), (2, .int (-1)), (3, .int (-1)), (4, .int 0)] [] u) ∧ (¬ 0 ≤ nI (gd_bits (nd_b (gc_g w) (cb w) S) 10) → P (-3) u)
    have hN : gd_bits (nd_b (gc_g w) (cb w) S) 10 < 1024 := gd_bits_lt _ 10
    generalize gd_bits (nd_b (gc_g w) (cb w) S) 10 = N at *
    refine ⟨fun _ => ?_, fun q => absurd (nI_pos' (by omega)) q⟩
    have loop : ∀ d j u a2 a3, j + d = 10 → cf w L u → dc_c L j (ds (gc_g w) (cb w) N j) a2 a3 → jj_J K mX6_dearest (jj_Ri P) 19 [(0, .ref 0), (1, .int (nI N)), (2, .int a2), (3, .int a3), (4, .int (nI j))] [] u := by
      intro d
      induction d with
      | zero =>
        intro j u a2 a3 hj hf hI
        have e : j = 10 := by omega
        subst e
        apply vc_X6_dearest_19
        refine ⟨fun _ => ?_, fun q => absurd (by decide) q⟩
        have := kk u hf
        rcases hI with ⟨hs, e⟩ | ⟨c, W, i, hs, e, -⟩
        · rw [hs] at this; rw [e]; exact this
        · rw [hs] at this; rw [e]; exact this
      | succ d ih =>
        intro j u a2 a3 hj hf hI
        apply vc_X6_dearest_19
        rw [nn_bit0 (by omega) (by omega), nn_ad1]
        refine ⟨fun q => absurd q (nI_ge (b := 10) (by omega) (by decide)), fun _ => ⟨fun hbit => ?_, fun hbit => ?_⟩⟩
        · have hb1 : N.testBit j = true := by
            cases hq : N.testBit j with
            | true => rfl
            | false => exact absurd hq hbit
          rw [hf.1.2 6 (by decide), h.2.1.1, bwo_nn (by omega)]
          refine c_lw h.1.1 rfl hf (Nat.lt_of_le_of_lt (bwo_le _ _) hb) (fun u2 v2 hf2 hv2 => ?_)
          rcases hv2 with ⟨e, hn⟩ | ⟨i', T, e, hi', hs'⟩
          · subst e
            refine ⟨fun q => absurd q nn_neg1, fun _ => ?_⟩
            have hd : ds (gc_g w) (cb w) N (j + 1) = some (j, none) := by
              show ds1 _ _ _ j (ds (gc_g w) (cb w) N j) = _
              rcases hI with ⟨hs, -⟩ | ⟨c, W, i, hs, -⟩
              · rw [hs]; simp [ds1, hb1, hn]
              · rw [hs]; simp [ds1, hb1, hn]
            have := kk u2 hf2
            have e10 : j + 1 + (9 - j) = 10 := by omega
            have hfin := ds_fin hd (9 - j)
            rw [e10] at hfin
            rw [hfin] at this
            exact this
          · subst e
            obtain ⟨i1, i2⟩ := ci_ix h.1.1 hf2.2.2.1 hi'
            refine ⟨fun _ => ⟨fun hneg => ?_, fun hpos => ?_⟩, fun q => absurd (nI_pos' (by omega)) q⟩
            · refine ih (j + 1) u2 _ _ (by omega) hf2 (Or.inr ⟨j, T, i', ?_, rfl, by omega, rfl, hi'⟩)
              show ds1 _ _ _ j (ds (gc_g w) (cb w) N j) = _
              rcases hI with ⟨hs, -⟩ | ⟨c, W, i, hs, e, hcj, -⟩
              · rw [hs]; simp [ds1, hb1, hs']
              · rw [e] at hneg
                exact absurd hneg (nI_pos (by omega))
            · rcases hI with ⟨hs, e⟩ | ⟨c, W, i, hs, e, hcj, e3, hi⟩
              · rw [e] at hpos
                exact absurd (by decide) hpos
              · subst e3
                have hd : ds (gc_g w) (cb w) N (j + 1) = @ite _ (gd_lt (gc_g w) W T) (Classical.propDecidable _) (some (j, some T)) (some (c, some W)) := by
                  show ds1 _ _ _ j (ds (gc_g w) (cb w) N j) = _
                  rw [hs]; simp [ds1, hb1, hs']
                refine c_isDearer (Or.inl rfl) h.1.1 hf2.2.2.1 hi' hi (fun hl => ⟨fun q => absurd q (by decide), fun _ => ?_⟩) (fun hl => ⟨fun _ => ?_, fun q => absurd rfl q⟩)
                · rw [if_pos hl] at hd
                  exact ih (j + 1) u2 _ _ (by omega) hf2 (Or.inr ⟨j, T, i', hd, rfl, by omega, rfl, hi'⟩)
                · rw [if_neg hl] at hd
                  exact ih (j + 1) u2 _ _ (by omega) hf2 (Or.inr ⟨c, W, i, hd, e, by omega, rfl, hi⟩)
        · refine ih (j + 1) u a2 a3 (by omega) hf ?_
          rw [ds_skip hbit]
          rcases hI with q | ⟨c, W, i, a, b, cj, d, e⟩
          · exact Or.inl q
          · exact Or.inr ⟨c, W, i, a, b, by omega, d, e⟩
    exact loop 10 0 u (-1) (-1) rfl hf (Or.inl ⟨rfl, rfl⟩)
def dc_m (g : gd_T) (k : Nat) (s : Option (Nat × Option Nat)) (a2 a3 a4 : Int32) : Prop := (s = none ∧ a2 = -1 ∧ a4 = 0) ∨ (∃ c W, s = some (c, some W) ∧ a2 = nI c ∧ c < k ∧ a3 = nI W ∧ a4 = 0 ∧ W < 2 ^ gd_m g ∧ gd_brs g W) ∨ ∃ c, s = some (c, none) ∧ a2 = nI c ∧ a4 = 1
theorem dc_m_da {g : gd_T} {k : Nat} {s : Option (Nat × Option Nat)} {a2 a3 a4 : Int32} (h : dc_m g k s a2 a3 a4) : a2 = da s := by
  rcases h with ⟨hs, e, -⟩ | ⟨c, W, hs, e, -⟩ | ⟨c, hs, e, -⟩
  · rw [hs]; exact e
  · rw [hs]; exact e
  · rw [hs]; exact e
theorem ds_0 {g : gd_T} {B : Nat} : ∀ k, ds g B 0 k = none
  | 0 => rfl
  | k + 1 => by rw [ds_skip (Nat.zero_testBit k)]; exact ds_0 k
theorem m_dearestNow {P : Int32 → wo_T → Prop} (h : mi w) (k : ∀ u, mq w u → mi u → P (dr (gm_g w) (mb w)) u) : jj_Ci K mX7_dearestNow [.ref 58] w P := by
  have hm := gm_m h.1
  obtain ⟨e1, e2⟩ := ev_lt hm
  apply en_X7_dearestNow
  refine m_neededNow h (fun u hq hu => ?_)
  unfold dr at k
  unfold nd
  cases hs : sb (gm_g w) (mb w) with
  | none =>
    rw [hs] at k
    apply vc_X7_dearestNow_15
    refine m_pairs hu.1 ?_
    have kk := k u hq hu
    exact ⟨fun _ => ⟨fun q => absurd rfl q, fun _ => kk⟩, fun _ => ⟨fun _ => ⟨fun q => absurd rfl q, fun _ => kk⟩, fun q => absurd (show (-3 : Int32) ≤ 0 by decide) q⟩⟩
  | some S =>
    rw [hs] at k
    replace k : ∀ u, mq w u → mi u → P (da (ds (gm_g w) (mb w) (gd_bits (nd_b (gm_g w) (mb w) S) 10) 10)) u := k
    show jj_J K mX7_dearestNow (jj_Ri P) 15 [(0, .ref 58), (1, .int (nI (gd_bits (nd_b (gm_g w) (mb w) S) 10))), (2, .int (-1)), (3, .int (-1)), (4, .int 0), (5, .int 0)] [] u
    have hN : gd_bits (nd_b (gm_g w) (mb w) S) 10 < 1024 := gd_bits_lt _ 10
    have hNm : ∀ j, gd_m (gm_g w) ≤ j → (gd_bits (nd_b (gm_g w) (mb w) S) 10).testBit j = false := fun j hj => by
      rw [gd_bits_tb, nd_f (fun q => by rw [gd_big h.2.1.2 hj] at q; cases q.1)]; simp
    generalize gd_bits (nd_b (gm_g w) (mb w) S) 10 = N at *
    have hend : ds (gm_g w) (mb w) N 10 = ds (gm_g w) (mb w) N (gd_m (gm_g w)) := by
      have := ds_stop (g := gm_g w) (B := mb w) hNm (10 - gd_m (gm_g w))
      have e : gd_m (gm_g w) + (10 - gd_m (gm_g w)) = 10 := by omega
      rw [e] at this
      exact this
    have hn3 : ¬ nI N = -3 := fun q => by
      have := congrArg Int32.toInt q
      rw [nn_nI_int (by omega)] at this
      have h1 : (-3 : Int32).toInt = -3 := rfl
      rw [h1] at this
      omega
    have hle : nI N ≤ 0 ↔ N = 0 := by
      rw [Int32.le_iff_toInt_le, nn_nI_int (by omega)]
      have h1 : (0 : Int32).toInt = 0 := rfl
      rw [h1]
      omega
    have loop : ∀ d j u a2 a3 a4, j + d = gd_m (gm_g w) → mq w u → mi u → dc_m (gm_g w) j (ds (gm_g w) (mb w) N j) a2 a3 a4 → jj_J K mX7_dearestNow (jj_Ri P) 15 [(0, .ref 58), (1, .int (nI N)), (2, .int a2), (3, .int a3), (4, .int a4), (5, .int (nI j))] [] u := by
      intro d
      induction d with
      | zero =>
        intro j u a2 a3 a4 hj hq hu hI
        have e : j = gd_m (gm_g w) := by omega
        subst e
        have hg := mq_g hq
        apply vc_X7_dearestNow_15
        refine m_pairs hu.1 ?_
        rw [hg]
        have := k u hq hu
        rw [hend, ← dc_m_da hI] at this
        exact ⟨fun _ => ⟨fun _ => this, fun q => absurd q hn3⟩, fun q => absurd (nI_le (by omega) (by omega)) q⟩
      | succ d ih =>
        intro j u a2 a3 a4 hj hq hu hI
        have hg := mq_g hq
        apply vc_X7_dearestNow_15
        refine m_pairs hu.1 ?_
        rw [hg, nn_bit1 (by omega) (by omega), nn_ad1, hle]
        refine ⟨fun q => absurd q (nI_ge (by omega) (by omega)), fun _ => ⟨fun h0 => ?_, fun _ => ⟨fun hbit => ?_, fun hbit => ⟨fun h4 => ?_, fun h4 => ?_⟩⟩⟩⟩
        · have := k u hq hu
          rw [h0, ds_0] at this
          rw [h0, ds_0] at hI
          rw [← dc_m_da hI] at this
          exact ⟨fun _ => this, fun q => absurd q hn3⟩
        · refine ih (j + 1) u a2 a3 a4 (by omega) hq hu ?_
          have hb0 : N.testBit j = false := by
            cases hq : N.testBit j with
            | true => exact absurd hq hbit
            | false => rfl
          rw [ds_skip hb0]
          rcases hI with q | ⟨c, W, a, b, cj, r⟩ | q
          · exact Or.inl q
          · exact Or.inr (Or.inl ⟨c, W, a, b, by omega, r⟩)
          · exact Or.inr (Or.inr q)
        · refine ih (j + 1) u a2 a3 a4 (by omega) hq hu ?_
          rcases hI with ⟨-, -, q⟩ | ⟨c, W, -, -, -, -, q, -⟩ | ⟨c, hs, e, q⟩
          · exact absurd q h4
          · exact absurd q h4
          · refine Or.inr (Or.inr ⟨c, ?_, e, q⟩)
            show ds1 _ _ _ j (ds (gm_g w) (mb w) N j) = _
            rw [hs]; rfl
        · rw [hu.2.1.1, bwo_nn (by omega), mq_b hq]
          refine m_best hu (by rw [hg]; exact Nat.lt_of_le_of_lt (bwo_le _ _) h.2.1.2) (fun u2 hq2 hu2 hT2 => ?_)
          rw [hg] at hT2
          rw [hg]
          have hq12 := mq_tr hq hq2
          cases hs' : sb (gm_g w) (bwo (mb w) j) with
          | none =>
            refine ⟨fun q => absurd rfl q, fun _ => ih (j + 1) u2 _ _ _ (by omega) hq12 hu2 (Or.inr (Or.inr ⟨j, ?_, rfl, rfl⟩))⟩
            show ds1 _ _ _ j (ds (gm_g w) (mb w) N j) = _
            rcases hI with ⟨hs, -⟩ | ⟨c, W, hs, -⟩ | ⟨c, hs, -, q⟩
            · rw [hs]; simp [ds1, hbit, hs']
            · rw [hs]; simp [ds1, hbit, hs']
            · rw [h4] at q; exact absurd q (by decide)
          | some T =>
            have hT' := sb_brs hs'
            refine ⟨fun _ => ⟨fun hneg => ?_, fun hpos => ?_⟩, fun q => absurd q (eb_ne (by omega))⟩
            · refine ih (j + 1) u2 _ _ _ (by omega) hq12 hu2 (Or.inr (Or.inl ⟨j, T, ?_, rfl, by omega, rfl, rfl, hT'.2.1, hT'.1⟩))
              show ds1 _ _ _ j (ds (gm_g w) (mb w) N j) = _
              rcases hI with ⟨hs, -⟩ | ⟨c, W, hs, e, hcj, -⟩ | ⟨c, hs, -, q⟩
              · rw [hs]; simp [ds1, hbit, hs']
              · rw [e] at hneg
                exact absurd hneg (eb_ne (by omega))
              · rw [h4] at q; exact absurd q (by decide)
            · rcases hI with ⟨hs, e, -⟩ | ⟨c, W, hs, e, hcj, e3, -, hW, bW⟩ | ⟨c, hs, -, q⟩
              · exact absurd e hpos
              · subst e3
                have hd : ds (gm_g w) (mb w) N (j + 1) = @ite _ (gd_lt (gm_g w) W T) (Classical.propDecidable _) (some (j, some T)) (some (c, some W)) := by
                  show ds1 _ _ _ j (ds (gm_g w) (mb w) N j) = _
                  rw [hs]; simp [ds1, hbit, hs']
                refine m_isLess hm hT2 hW hT'.2.1 bW hT'.1 (fun hl => ⟨fun q => absurd q (by decide), fun _ => ?_⟩) (fun hl => ⟨fun _ => ⟨fun _ => ?_, fun q => ?_⟩, fun q => absurd rfl q⟩)
                · rw [if_pos hl] at hd
                  exact ih (j + 1) u2 _ _ _ (by omega) hq12 hu2 (Or.inr (Or.inl ⟨j, T, hd, rfl, by omega, rfl, rfl, hT'.2.1, hT'.1⟩))
                · rw [if_neg hl] at hd
                  exact ih (j + 1) u2 _ _ _ (by omega) hq12 hu2 (Or.inr (Or.inl ⟨c, W, hd, e, by omega, rfl, rfl, hW, bW⟩))
                · rw [e] at q
                  have := (nI_eq (by omega) (by omega)).mp q
                  omega
              · rw [h4] at q; exact absurd q (by decide)
    exact loop (gd_m (gm_g w)) 0 u (-1) (-1) 0 (by omega) hq hu (Or.inl ⟨rfl, rfl, rfl⟩)
theorem m_dearest {P : Int32 → wo_T → Prop} (h : mi w) (k : ∀ u, mq w u → mi u → P (dr (gm_g w) (mb w)) u) : jj_Ci K mX7_dearest [.ref 58] w P := by
  apply en_X7_dearest
  exact m_dearestNow h k
end

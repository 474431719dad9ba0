/-! ===== grow and prune ===== -/
theorem gr_none {g : gd_T} {f B : Nat} (h : gmost g B = none) : gr g f B = (0, B) := by
  cases f with
  | zero => rfl
  | succ f =>
    show (match gmost g B with | none => (0, B) | some k => ((gr g f (bwi B k)).1 + 1, (gr g f (bwi B k)).2)) = _
    rw [h]
theorem gr_some {g : gd_T} {f B k : Nat} (h : gmost g B = some k) : gr g (f + 1) B = ((gr g f (bwi B k)).1 + 1, (gr g f (bwi B k)).2) := by
  show (match gmost g B with | none => (0, B) | some k => ((gr g f (bwi B k)).1 + 1, (gr g f (bwi B k)).2)) = _
  rw [h]
theorem gr_lt {g : gd_T} : ∀ f B, B < 2 ^ gd_m g → (gr g f B).2 < 2 ^ gd_m g ∧ (gr g f B).1 ≤ f
  | 0, B, h => ⟨h, Nat.le_refl _⟩
  | f + 1, B, h => by
    cases hs : gmost g B with
    | none => rw [gr_none hs]; exact ⟨h, Nat.zero_le _⟩
    | some k =>
      rw [gr_some hs]
      obtain ⟨a, b⟩ := gr_lt f (bwi B k) (bwi_lt h (gmost_in hs).1)
      exact ⟨a, by simp; omega⟩
theorem pop_full {B : Nat} : ∀ n, gd_pop B n = n → ∀ k, k < n → B.testBit k = true
  | 0, _, k, hk => absurd hk (Nat.not_lt_zero _)
  | n + 1, h, k, hk => by
    simp only [gd_pop] at h
    have := gd_pop_le B n
    cases hb : B.testBit n with
    | false => rw [hb] at h; simp at h; omega
    | true =>
      rw [hb] at h
      simp at h
      rcases Nat.lt_or_ge k n with q | q
      · exact pop_full n h k q
      · have e : k = n := by omega
        rw [e]; exact hb
section
variable {K : jj_K} {w : wo_T}
theorem cq_cqB {w u v : wo_T} {B : Nat} (h : cqB w u B) (h2 : cq u v) : cqB w v B := ⟨wo_fr_tr h.1 h2.1, fun j a b => (h2.2 j a).trans (h.2.1 j a b), by rw [h2.2 6 (by decide)]; exact h.2.2⟩
theorem mq_mqB {w u v : wo_T} {B : Nat} (h : mqB w u B) (h2 : mq u v) : mqB w v B := ⟨wo_fr_tr h.1 h2.1, fun j a b c d e f => (h2.2 j a b c d e).trans (h.2.1 j a b c d e f), by rw [h2.2 6 (by decide) (by decide) (by decide) (by decide) (by decide)]; exact h.2.2⟩
theorem c_grow {P : Int32 → wo_T → Prop} (h : ci w) (k0 : ∀ u L, cf w L u → sb (gc_g w) (cb w) = none → P (-3) u) (k1 : ∀ u S, sb (gc_g w) (cb w) = some S → cqB w u (gr (gc_g w) 10 (cb w)).2 → ci u → P (nI (gr (gc_g w) 10 (cb w)).1) u) : jj_Ci K mX6_grow [.ref 0] w P := by
  have hm := gc_m h.1
  obtain ⟨e1, e2⟩ := ev_lt hm
  have hb := h.2.1.2
  apply en_X6_grow
  refine c_bestNow h (fun u v L hf hv => ?_)
  rcases hv with ⟨e, hn⟩ | ⟨i, S, e, hi, hs⟩
  · subst e
    exact ⟨fun q => absurd q nn_neg1, fun _ => k0 u L hf hn⟩
  · subst e
    obtain ⟨i1, i2⟩ := ci_ix h.1.1 hf.2.2.1 hi
    refine ⟨fun _ => ?_, fun q => absurd (nI_pos' (by omega)) q⟩
    have loop : ∀ d n u B S', n + d = 10 → cqB w u B → ci u → u.1 0 8 = 0 → B < 2 ^ gd_m (gc_g w) → sb (gc_g w) B = some S' → gr (gc_g w) 10 (cb w) = (n + (gr (gc_g w) d B).1, (gr (gc_g w) d B).2) → jj_J K mX6_grow (jj_Ri P) 17 [(0, .ref 0), (1, .int (nI n)), (2, .int (eb (gmost (gc_g w) B)))] [] u := by
      intro d
      induction d with
      | zero =>
        intro n u B S' hn hq hu h8 hB hsB he
        have e : n = 10 := by omega
        subst e
        apply vc_X6_grow_17
        have he2 : gr (gc_g w) 10 (cb w) = (10, B) := he
        have := k1 u S hs (by rw [he2]; exact hq) hu
        rw [he2] at this
        exact ⟨fun _ => this, fun q => absurd (by decide) q⟩
      | succ d ih =>
        intro n u B S' hn hq hu h8 hB hsB he
        apply vc_X6_grow_17
        refine ⟨fun q => absurd q (nI_ge (b := 10) (by omega) (by decide)), fun _ => ?_⟩
        cases hg : gmost (gc_g w) B with
        | none =>
          refine ⟨fun _ => ?_, fun q => absurd (show eb none < 0 by decide) q⟩
          rw [gr_none hg] at he
          have he2 : gr (gc_g w) 10 (cb w) = (n, B) := he
          have := k1 u S hs (by rw [he2]; exact hq) hu
          rw [he2] at this
          exact this
        | some j =>
          obtain ⟨hjm, hjb⟩ := gmost_in hg
          have hgu := cqB_g hq
          refine ⟨fun q => absurd q (nI_pos (n := j) (by omega)), fun _ => ?_⟩
          have eor : u.1 0 6 ||| (1 : Int32) <<< (eb (some j) &&& 31) = nI (bwi B j) := by
            rw [hq.2.2]
            exact bwi_nn (by omega)
          rw [eor, nn_ad1]
          obtain ⟨L2, hL2⟩ := hu.2.2 h8
          have hci := ci_set (B := bwi B j) hu.1 (by rw [hgu]; exact bwi_lt hB hjm) hL2
          have hgu2 : gc_g (wo_i u 0 6 (nI (bwi B j))) = gc_g w := by
            rw [← hgu]
            unfold gc_g
            rw [wo_i_ne 1 (by decide), wo_i_ne 2 (by decide), wo_i_ne 3 (by decide), wo_i_ne 4 (by decide)]
          have hcb2 : cb (wo_i u 0 6 (nI (bwi B j))) = bwi B j := cb_of (by have := bwi_lt hB hjm; omega) wo_i_eq
          obtain ⟨T, hT⟩ := sb_up (k := j) hsB
          refine c_mostSaving hci (by rw [wo_i_nk (by decide)]; exact h8) (S0 := T) (by rw [hgu2, hcb2]; exact hT) (fun u2 L3 hf3 => ?_)
          rw [hgu2, hcb2]
          refine ih (n + 1) u2 (bwi B j) T (by omega) (cq_cqB (u := wo_i u 0 6 (nI (bwi B j))) ⟨wo_fr_i hq.1 (by simp) _ _, fun j' a b => by rw [wo_i_nk (by omega)]; exact hq.2.1 j' a b, wo_i_eq⟩ hf3.1) (cf_ci hci hf3) hf3.2.1 (bwi_lt hB hjm) hT ?_
          rw [he, gr_some hg]
          simp only []
          congr 1
          omega
    have hci := cf_ci h hf
    refine c_mostSaving hci hf.2.1 (S0 := S) (by rw [cq_g hf.1, cq_b hf.1]; exact hs) (fun u2 L2 hf2 => ?_)
    rw [cq_g hf.1, cq_b hf.1]
    have hq2 := cq_tr hf.1 hf2.1
    refine loop 10 0 u2 (cb w) S rfl ⟨hq2.1, fun j a b => hq2.2 j a, by rw [hq2.2 6 (by decide)]; exact h.2.1.1⟩ (cf_ci hci hf2) hf2.2.1 hb hs ?_
    simp
theorem m_grow {P : Int32 → wo_T → Prop} (h : mi w) (k0 : ∀ u, mq w u → mi u → sb (gm_g w) (mb w) = none → P (-3) u) (k1 : ∀ u S, sb (gm_g w) (mb w) = some S → mqB w u (gr (gm_g w) 10 (mb w)).2 → mi u → P (nI (gr (gm_g w) 10 (mb w)).1) u) : jj_Ci K mX7_grow [.ref 58] w P := by
  have hm := gm_m h.1
  obtain ⟨e1, e2⟩ := ev_lt hm
  have hb := h.2.1.2
  apply en_X7_grow
  rw [h.2.1.1]
  refine m_best h hb (fun u hq hu hT => ?_)
  cases hs : sb (gm_g w) (mb w) with
  | none => exact ⟨fun q => absurd rfl q, fun _ => k0 u hq hu hs⟩
  | some S =>
    have hS := (sb_brs hs).2.1
    refine ⟨fun _ => ?_, fun q => absurd q (eb_ne (by omega))⟩
    have loop : ∀ d n u B S', n + d = 10 → mqB w u B → mi u → B < 2 ^ gd_m (gm_g w) → sb (gm_g w) B = some S' → 10 ≤ gd_pop B 10 + d → gr (gm_g w) 10 (mb w) = (n + (gr (gm_g w) d B).1, (gr (gm_g w) d B).2) → jj_J K mX7_grow (jj_Ri P) 22 [(0, .ref 58), (1, .int (nI n)), (2, .int (eb (gmost (gm_g w) B)))] [] u := by
      intro d
      induction d with
      | zero =>
        intro n u B S' hn hq hu hB hsB hpop he
        apply vc_X7_grow_22
        have hnone : gmost (gm_g w) B = none := by
          cases hg : gmost (gm_g w) B with
          | none => rfl
          | some j =>
            obtain ⟨hjm, hjb⟩ := gmost_in hg
            have := pop_full (B := B) 10 (by have := gd_pop_le B 10; omega) j (by omega)
            rw [this] at hjb; cases hjb
        rw [hnone]
        have he2 : gr (gm_g w) 10 (mb w) = (n, B) := he
        have := k1 u S hs (by rw [he2]; exact hq) hu
        rw [he2] at this
        exact ⟨fun _ => this, fun q => absurd rfl q⟩
      | succ d ih =>
        intro n u B S' hn hq hu hB hsB hpop he
        apply vc_X7_grow_22
        cases hg : gmost (gm_g w) B with
        | none =>
          refine ⟨fun _ => ?_, fun q => absurd rfl q⟩
          rw [gr_none hg] at he
          have he2 : gr (gm_g w) 10 (mb w) = (n, B) := he
          have := k1 u S hs (by rw [he2]; exact hq) hu
          rw [he2] at this
          exact this
        | some j =>
          obtain ⟨hjm, hjb⟩ := gmost_in hg
          have hgu : gm_g u = gm_g w := gm_g_eq (mqB_s hq)
          refine ⟨fun q => absurd q (eb_ne (by omega)), fun _ => ?_⟩
          have eor : u.1 58 6 ||| (1 : Int32) <<< (eb (some j) &&& 31) = nI (bwi B j) := by
            rw [hq.2.2]
            exact bwi_nn (by omega)
          rw [eor, nn_ad1]
          have hmi := mi_set (B := bwi B j) hu (by rw [hgu]; exact bwi_lt hB hjm)
          have hgu2 : gm_g (wo_i u 58 6 (nI (bwi B j))) = gm_g w := by
            rw [← hgu]
            exact gm_g_eq ⟨wo_i_nk (by decide), wo_i_ne _ (by decide), wo_i_ne _ (by decide), wo_i_ne _ (by decide), wo_i_ne _ (by decide)⟩
          have hmb2 : mb (wo_i u 58 6 (nI (bwi B j))) = bwi B j := mb_of (by have := bwi_lt hB hjm; omega) wo_i_eq
          obtain ⟨T, hT⟩ := sb_up (k := j) hsB
          refine m_growing hmi (S0 := T) (by rw [hgu2, hmb2]; exact hT) (fun u2 hq3 hu3 => ?_)
          rw [hgu2, hmb2]
          refine ih (n + 1) u2 (bwi B j) T (by omega) (mq_mqB (u := wo_i u 58 6 (nI (bwi B j))) ⟨wo_fr_i hq.1 (by simp) _ _, fun j' a b c d e f => by rw [wo_i_nk (by omega)]; exact hq.2.1 j' a b c d e f, wo_i_eq⟩ hq3) hu3 (bwi_lt hB hjm) hT ?_ ?_
          · rw [pop_bwi hjb, if_pos (by omega)]; omega
          · rw [he, gr_some hg]
            simp only []
            congr 1
            omega
    refine m_growing hu (S0 := S) (by rw [mq_g hq, mq_b hq]; exact hs) (fun u2 hq2 hu2 => ?_)
    rw [mq_g hq, mq_b hq]
    have hq12 := mq_tr hq hq2
    refine loop 10 0 u2 (mb w) S rfl ⟨hq12.1, fun j a b c d e f => hq12.2 j a b c d e, by rw [hq12.2 6 (by decide) (by decide) (by decide) (by decide) (by decide)]; exact h.2.1.1⟩ hu2 hb hs (by omega) ?_
    simp
theorem c_prune {P : Int32 → wo_T → Prop} (h : ci w) (k0 : ∀ u L, cf w L u → sb (gc_g w) (cb w) = none → P (-3) u) (k1 : ∀ u S, sb (gc_g w) (cb w) = some S → cqB w u S → ci u → P (nI (gd_pop (cb w) 10) - nI (gd_pop S 10)) u) : jj_Ci K mX6_prune [.ref 0] w P := by
  have hm := gc_m h.1
  obtain ⟨e1, e2⟩ := ev_lt hm
  have hb := h.2.1.2
  apply en_X6_prune
  refine c_frame h (fun u L hf => ?_)
  cases hs : sb (gc_g w) (cb w) with
  | none => exact ⟨fun q => absurd q (show ¬ (0 : Int32) ≤ -3 by decide), fun _ => k0 u L hf hs⟩
  | some S =>
    have hS := (sb_brs hs).2.1
    refine ⟨fun _ => ?_, fun q => absurd (nI_pos' (n := S) (by omega)) q⟩
    rw [hf.1.2 6 (by decide), h.2.1.1]
    refine c_bits (by omega) (c_bits (a := S) (by omega) (fun x ex => ?_))
    subst ex
    have hg := cq_g hf.1
    refine k1 _ S hs ⟨wo_fr_i hf.1.1 (by simp) _ _, fun j a b => by rw [wo_i_nk (by omega)]; exact hf.1.2 j a, wo_i_eq⟩ (ci_set (L := L) (cq_ok hf.1 h.1) (by rw [hg]; exact hS) (by rw [hg]; exact hf.2.2))
theorem m_prune {P : Int32 → wo_T → Prop} (h : mi w) (k0 : ∀ u, mq w u → mi u → sb (gm_g w) (mb w) = none → P (-3) u) (k1 : ∀ u S, sb (gm_g w) (mb w) = some S → mqB w u S → mi u → P (nI (gd_pop (mb w) 10) - nI (gd_pop S 10)) u) : jj_Ci K mX7_prune [.ref 58] w P := by
  have hm := gm_m h.1
  obtain ⟨e1, e2⟩ := ev_lt hm
  have hb := h.2.1.2
  apply en_X7_prune
  rw [h.2.1.1]
  refine m_best h hb (fun u hq hu hT => ?_)
  cases hs : sb (gm_g w) (mb w) with
  | none => exact ⟨fun q => absurd rfl q, fun _ => k0 u hq hu hs⟩
  | some S =>
    have hS := (sb_brs hs).2.1
    refine ⟨fun _ => ?_, fun q => absurd q (eb_ne (by omega))⟩
    rw [hq.2 6 (by decide) (by decide) (by decide) (by decide) (by decide), h.2.1.1]
    refine m_size (by omega) (m_size (s := S) (by omega) ?_)
    exact k1 _ S hs ⟨wo_fr_i hq.1 (by simp) _ _, fun j a b c d e f => by rw [wo_i_nk (by omega)]; exact hq.2 j a b c d e, wo_i_eq⟩ (mi_set hu (by rw [mq_g hq]; exact hS))
end

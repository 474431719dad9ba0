/-! ===== the same answers: would ===== -/
theorem wo_i_back {u w : wo_T} {a i : Nat} (h : ∀ j, j ≠ i → u.1 a j = w.1 a j) : (wo_i u a i (w.1 a i)).1 a = w.1 a := by
  funext j
  by_cases e : j = i
  · rw [e, wo_i_eq]
  · rw [wo_i_nk (by omega)]; exact h j e
section
variable {K : jj_K} {w : wo_T}
theorem m_wouldBe {P : Int64 → wo_T → Prop} (h : mi w) {i : Nat} (hi : i < 10) {v : Int32} (hv : -9 ≤ v.toInt ∧ v.toInt ≤ 9) (c : Int32) (k : ∀ u, mq w u → mi u → P (sl (gm_g (wo_i w 62 i v)) (mb w) c) u) : jj_Cl K mX7_wouldBe [.ref 58, .int (nI i), .int v, .int c] w P := by
  apply en_X7_wouldBe
  rw [nI_clamp (by omega)]
  refine ⟨nn_inn (by omega) (by decide), fun x ex => ⟨nn_inn (by omega) (by decide), ?_⟩⟩
  generalize hv1 : wo_i (wo_i w 62 i v) 58 13 0 = v1
  have f1 : ∀ b, b ≠ 58 → b ≠ 62 → v1.1 b = w.1 b := fun c x y => by rw [← hv1, wo_i_ne c x, wo_i_ne c y]
  have f58 : ∀ j, j ≠ 13 → v1.1 58 j = w.1 58 j := fun j hj => by rw [← hv1, wo_i_nk (by omega), wo_i_ne 58 (by decide)]
  have f13 : v1.1 58 13 = 0 := by rw [← hv1, wo_i_eq]
  have f62 : ∀ j, v1.1 62 j = if j = i then v else w.1 62 j := fun j => by
    rw [← hv1, wo_i_ne 62 (by decide)]
    by_cases e : j = i
    · rw [if_pos e, e, wo_i_eq]
    · rw [if_neg e, wo_i_nk (by omega)]
  have f2 : v1.2 = w.2 := by rw [← hv1]; rfl
  have hok : gm_ok v1 := gm_ok_of (w := w) (f58 5 (by decide)) (f1 59 (by decide) (by decide)) (f1 60 (by decide) (by decide)) (fun v hv => by
    rw [f62 v]
    split
    · assumption
    · exact h.1.1.2.2.2 v hv) (fun q hq => by rw [f1 61 (by decide) (by decide)]; exact gm_held h.1 q hq) h.1
  have nm : gd_m (gm_g v1) = gd_m (gm_g w) := by
    have : (gm_g v1).1 = (gm_g w).1 := by
      show (v1.1 58 5).toInt.toNat = (w.1 58 5).toInt.toNat
      rw [f58 5 (by decide)]
    unfold gd_m; rw [this]
  have hmi : mi v1 := mi_stale hok (f58 6 (by decide)) f13 nm h
  have hmb : mb v1 = mb w := by unfold mb; rw [f58 6 (by decide)]
  have hgg : gm_g v1 = gm_g (wo_i w 62 i v) := by
    rw [← hv1]
    exact gm_g_eq ⟨wo_i_nk (by decide), wo_i_ne _ (by decide), wo_i_ne _ (by decide), wo_i_ne _ (by decide), wo_i_ne _ (by decide)⟩
  rw [hmi.2.1.1]
  refine m_volumeOf hmi hmi.2.1.2 c (fun u hq hu => ⟨nn_inn (by omega) (by decide), ?_⟩)
  rw [hgg, hmb]
  subst ex
  have u62 : (wo_i u 62 i (w.1 62 i)).1 62 = w.1 62 := wo_i_back (fun j hj => by rw [hq.1.1 62 (by simp), f62 j, if_neg hj])
  generalize hu6 : wo_i (wo_i u 62 i (w.1 62 i)) 58 13 0 = u6
  have e62 : u6.1 62 = w.1 62 := by rw [← hu6, wo_i_ne 62 (by decide)]; exact u62
  have e1 : ∀ b, b ≠ 58 → b ≠ 62 → b ≠ 65 → b ≠ 66 → u6.1 b = w.1 b := fun c x y z t => by rw [← hu6, wo_i_ne c x, wo_i_ne c y, hq.1.1 c (by simp [x, z, t]), f1 c x y]
  have e2 : u6.2 = u.2 := by rw [← hu6]; rfl
  have e58 : ∀ j, j ≠ 9 → j ≠ 13 → j ≠ 14 → j ≠ 15 → j ≠ 16 → u6.1 58 j = w.1 58 j := fun j x y z t s => by rw [← hu6, wo_i_nk (by omega), wo_i_ne 58 (by decide), hq.2 j x y z t s, f58 j y]
  have hq6 : mq w u6 := by
    refine ⟨⟨fun b hb => ?_, fun b hb => ?_⟩, e58⟩
    · simp at hb
      by_cases e : b = 62
      · rw [e]; exact e62
      · exact e1 b (by omega) e (by omega) (by omega)
    · rw [e2, hq.1.2 b hb, f2]
  refine k u6 hq6 (mq_mi h hq6 (Or.inl ?_))
  rw [← hu6, wo_i_eq]
theorem s_would (h : iv w) (a b c d : Int32) : e_l K mX6_would mX7_would [.ref 0, .int a, .int b, .int c, .int d] [.ref 58, .int a, .int b, .int c, .int d] w := by
  have hg := iv_g h
  have hn := gc_n h.1.1
  apply en_X6_would
  refine c_hasPoint h.1.1 a (fun p hp e => ⟨fun q => absurd q (by decide), fun _ => c_isWithin b 0 1 ?_⟩) (fun hno => ⟨fun _ => c_asLong (-2) ?_, fun q => absurd rfl q⟩)
  · cases hb : isIn b 0 1 with
    | false =>
      refine ⟨fun _ => c_asLong (-2) ?_, fun q => absurd rfl q⟩
      apply en_X7_would
      refine m_isPoint h.2.1.1 a (fun p' hp' e' => ⟨fun q => absurd q (by decide), fun _ => m_isIn b 0 1 ?_⟩) (fun _ => ⟨fun _ => m_no (-2) ⟨rfl, h⟩, fun q => absurd rfl q⟩)
      rw [hb]
      exact ⟨fun _ => m_no (-2) ⟨rfl, h⟩, fun q => absurd rfl q⟩
    | true =>
      refine ⟨fun q => absurd q (by decide), fun _ => c_isLoad c.toInt64 ?_⟩
      rw [isLd_in]
      cases hc' : isIn c (-9) 9 with
      | false =>
        refine ⟨fun _ => c_asLong (-2) ?_, fun q => absurd rfl q⟩
        apply en_X7_would
        refine m_isPoint h.2.1.1 a (fun p' hp' e' => ⟨fun q => absurd q (by decide), fun _ => m_isIn b 0 1 ?_⟩) (fun _ => ⟨fun _ => m_no (-2) ⟨rfl, h⟩, fun q => absurd rfl q⟩)
        rw [hb]
        refine ⟨fun q => absurd q (by decide), fun _ => m_isIn c (-9) 9 ?_⟩
        rw [hc']
        exact ⟨fun _ => m_no (-2) ⟨rfl, h⟩, fun q => absurd rfl q⟩
      | true =>
        refine ⟨fun q => absurd q (by decide), fun _ => c_isPart d ?_⟩
        cases hd : isP d with
        | false =>
          refine ⟨fun q => absurd rfl q, fun _ => c_asLong (-2) ?_⟩
          apply en_X7_would
          refine m_isPoint h.2.1.1 a (fun p' hp' e' => ⟨fun q => absurd q (by decide), fun _ => m_isIn b 0 1 ?_⟩) (fun _ => ⟨fun _ => m_no (-2) ⟨rfl, h⟩, fun q => absurd rfl q⟩)
          rw [hb]
          refine ⟨fun q => absurd q (by decide), fun _ => m_isIn c (-9) 9 ?_⟩
          rw [hc']
          refine ⟨fun q => absurd q (by decide), fun _ => m_isP d ?_⟩
          rw [hd]
          exact ⟨fun _ => m_no (-2) ⟨rfl, h⟩, fun q => absurd rfl q⟩
        | true =>
          obtain ⟨ax, hax, eb⟩ := isIn_ax hb
          subst eb; subst e
          have hcb := isIn_b (x := -9) (y := 9) (by constructor <;> decide) (by constructor <;> decide) hc'
          rw [nn_two, nI_add, nI_clamp (by omega)]
          generalize hi : 2 * p + ax = i
          have hi10 : i < 10 := by omega
          refine ⟨fun _ => ⟨nn_inn (by omega) (by decide), fun x ex => ⟨nn_inn (by omega) (by decide), ?_⟩⟩, fun q => absurd q (by decide)⟩
          subst ex
          generalize hw1 : wo_i w 4 i c = w1
          have f1 : ∀ b, b ≠ 4 → w1.1 b = w.1 b := fun b x => by rw [← hw1, wo_i_ne b x]
          have f4 : ∀ j, w1.1 4 j = if j = i then c else w.1 4 j := fun j => by
            rw [← hw1]
            by_cases e : j = i
            · rw [if_pos e, e, wo_i_eq]
            · rw [if_neg e, wo_i_nk (by omega)]
          have f2 : w1.2 = w.2 := by rw [← hw1]; rfl
          have hok1 : gc_ok w1 := gc_ok_of (w := w) (f1 1 (by decide)) (f1 2 (by decide)) (f1 6 (by decide)) (f1 7 (by decide)) (fun v hv => by
            rw [f4 v]
            split
            · exact hcb
            · exact h.1.1.1.2.2.2 v hv) (fun q hq => by rw [f1 3 (by decide)]; exact gc_held h.1.1 q hq) h.1.1
          have nm : gd_m (gc_g w1) = gd_m (gc_g w) := by
            have : (gc_g w1).1 = (gc_g w).1 := by
              show (w1.1 1 6).toInt.toNat = (w.1 1 6).toInt.toNat
              rw [f1 1 (by decide)]
            unfold gd_m; rw [this]
          obtain ⟨z1, z2⟩ := ev_lt (iv_m10 h)
          have hB := h.1.2.1.2
          rw [f1 0 (by decide), h.1.2.1.1]
          refine c_gather (o := 29) (Or.inr rfl) hok1 (A := cb w) (by omega) (fun u L hF => ⟨nn_inn (by omega) (by decide), ?_⟩)
          obtain ⟨hfr, ⟨h8, h10, h9⟩, hbk, hall⟩ := hF
          have u4 : (wo_i u 4 i (w.1 4 i)).1 4 = w.1 4 := wo_i_back (fun j hj => by rw [hfr.1 4 (by decide), f4 j, if_neg hj])
          generalize hu2 : wo_i u 4 i (w.1 4 i) = u2
          rw [hu2] at u4
          have g1 : ∀ b, b ≠ 4 → u2.1 b = u.1 b := fun b x => by rw [← hu2, wo_i_ne b x]
          have g2 : u2.2 = u.2 := by rw [← hu2]; rfl
          rw [g1 0 (by decide), hfr.1 0 (by decide), f1 0 (by decide), h.1.2.1.1]
          have hbk2 : bk_L (gc_g w1) (cb w) u2 29 L := bk_L_fr (w := u) (by rw [g1 29 (by decide)]) (g1 30 (by decide)) (by rw [g2]) (by rw [g2]) hbk
          refine c_leastWithin (o := 29) (Or.inr rfl) hok1.1 hbk2 (Or.inl (by rw [g1 29 (by decide)]; exact h8)) (by omega) (fun u3 v hfr3 hj3 hc3 ha => ?_)
          have hbk3 : bk_L (gc_g w1) (cb w) u3 29 L := bk_L_fr (w := u2) (hj3 7 (by decide) (by decide)) (hfr3.1 30 (by decide)) (hfr3.2 31 (by simp)) (hfr3.2 32 (by simp)) hbk2
          have q1 : ∀ b, b ∉ cq_i → u3.1 b = w.1 b := fun b hb => by
            by_cases e : b = 4
            · rw [e, hfr3.1 4 (by decide)]; exact u4
            · have hb2 : b ∉ gt_is 29 := fun q => hb (by
                simp at q
                rcases q with q | q | q | q | q | q | q <;> (rw [q]; decide))
              have hb3 : b ∉ [29] := fun q => hb2 (by simp at q; rw [q]; decide)
              rw [hfr3.1 b hb3, g1 b e, hfr.1 b hb2, f1 b e]
          have q2 : ∀ b, b ∉ cq_l → u3.2 b = w.2 b := fun b hb => by
            have hb2 : b ∉ gt_ls 29 := fun q => hb (by
              simp at q
              rcases q with q | q | q | q | q | q | q | q | q | q | q | q <;> (rw [q]; decide))
            rw [hfr3.2 b (by simp), g2, hfr.2 b hb2, f2]
          have q0 : u3.1 0 = w.1 0 := by rw [hfr3.1 0 (by decide), g1 0 (by decide), hfr.1 0 (by decide), f1 0 (by decide)]
          have n1 : ∀ b, b < 29 → b ≠ 4 → b ∉ gt_is 29 → u3.1 b = w.1 b := fun b hb e hb2 => by
            have hb3 : b ∉ [29] := fun q => by simp at q; omega
            rw [hfr3.1 b hb3, g1 b e, hfr.1 b hb2, f1 b e]
          have n2 : ∀ b, b ∉ gt_ls 29 → u3.2 b = w.2 b := fun b hb2 => by rw [hfr3.2 b (by simp), g2, hfr.2 b hb2, f2]
          have hq3 : cq w u3 := ⟨⟨q1, q2⟩, fun j _ => by rw [q0]⟩
          have hci3 : ci u3 := by
            refine cq_ci h.1 hq3 (by rw [q0]) (fun L' hL' => ?_)
            obtain ⟨s1, s2, s3, s4⟩ := hL'
            refine ⟨bk_L_fr (w := w) (by rw [n1 23 (by decide) (by decide) (by decide)]) (n1 24 (by decide) (by decide) (by decide)) (n2 25 (by decide)) (n2 26 (by decide)) s1, s2, ?_, fun T hT e => ?_⟩
            · unfold bn_c
              rw [n1 23 (by decide) (by decide) (by decide)]
              exact s3
            · rw [n1 23 (by decide) (by decide) (by decide)] at e
              obtain ⟨p, q, a1, a2, a3, a4, a5⟩ := s4 T hT e
              exact ⟨p, q, a1, a2, a3, by rw [n2 23 (by decide)]; exact a4, fun k hk => by rw [n2 27 (by decide)]; exact a5 k hk⟩
          have hi3 := iv_c h hq3 hci3
          have fin : ∀ x, x = sl (gc_g w1) (cb w) d → jj_Cl K mX7_would [.ref 58, .int (nI p), .int (nI ax), .int c, .int d] u3 (fun v' u' => v' = x ∧ iv u') := by
            intro x ex
            apply en_X7_would
            refine m_isPoint hi3.2.1.1 (nI p) (fun p' hp' e' => ⟨fun q => absurd q (by decide), fun _ => m_isIn (nI ax) 0 1 ?_⟩) (fun hno => absurd rfl (hno p (by rw [iv_g hi3, cq_g hq3]; exact hp)))
            rw [hb]
            refine ⟨fun q => absurd q (by decide), fun _ => m_isIn c (-9) 9 ?_⟩
            rw [hc']
            refine ⟨fun q => absurd q (by decide), fun _ => m_isP d ?_⟩
            rw [hd, nn_two, nI_add, hi]
            refine ⟨fun q => absurd q (by decide), fun _ => m_wouldBe hi3.2.1 hi10 hcb d (fun u4 hq4 hu4 => ⟨?_, iv_m hi3 hq4 hu4⟩)⟩
            rw [ex, iv_b hi3, cq_b hq3]
            have : gm_g (wo_i u3 62 i c) = gc_g w1 := by
              obtain ⟨-, -, -, l1, l2, l3, l4, l5, -⟩ := hi3
              have k1 : (wo_i u3 62 i c).1 58 5 = w1.1 1 6 := by rw [wo_i_ne 58 (by decide), ← l1, q1 1 (by decide), f1 1 (by decide)]
              have k2 : ∀ p, (wo_i u3 62 i c).1 59 p = w1.1 2 (2 * p) := fun p => by rw [wo_i_ne 59 (by decide), ← l2, q1 2 (by decide), f1 2 (by decide)]
              have k3 : ∀ p, (wo_i u3 62 i c).1 60 p = w1.1 2 (2 * p + 1) := fun p => by rw [wo_i_ne 60 (by decide), ← l3, q1 2 (by decide), f1 2 (by decide)]
              have k4 : (wo_i u3 62 i c).1 61 = w1.1 3 := by rw [wo_i_ne 61 (by decide), ← l4, q1 3 (by decide), f1 3 (by decide)]
              have k5 : ∀ j, (wo_i u3 62 i c).1 62 j = w1.1 4 j := fun j => by
                rw [f4]
                by_cases e : j = i
                · rw [if_pos e, e, wo_i_eq]
                · rw [if_neg e, wo_i_nk (by omega), ← l5, q1 4 (by decide)]
              unfold gm_g gc_g
              simp only [k1, k2, k3, k4, k5]
            rw [this]
          have hBsub : gd_sub (cb w) (cb w) := fun _ q => q
          rcases ha with ⟨ev, hno⟩ | ⟨j, S, ev, hj, hsub, hle⟩
          · rw [ev]
            refine c_volumeN (Or.inr rfl) d (fin _ ?_)
            unfold sl
            rw [sb_none (bn_none hok1.1 ⟨hbk.2.2.1, hall⟩ hBsub hno)]
            rfl
          · rw [ev]
            have hbest := bn_best hok1.1 ⟨hbk.2.2.1, hall⟩ hBsub (List.mem_of_getElem? hj) hsub hle
            refine c_volume (Or.inr rfl) hok1.1 hbk3 hj d (fun a b hv => fin _ ?_)
            obtain ⟨e1, e2⟩ := sv_eq hbest.2.2.1.1 hv
            unfold sl fp
            rw [sb_some hbest]
            simp only [e1, e2]
  · apply en_X7_would
    exact m_isPoint h.2.1.1 a (fun p' hp' e' => absurd e' (hno p' (by rw [← hg]; exact hp'))) (fun _ => ⟨fun _ => m_no (-2) ⟨rfl, h⟩, fun q => absurd rfl q⟩)
end

/-! ===== the same answers: write ===== -/
def wv (f : Int32) (x : Int64) : Int64 := if f = 0 then x.toInt32.toInt64 else x
theorem isP_par (i : Nat) : isP (nI (i % 2)) = true := by
  rcases (show i % 2 = 0 ∨ i % 2 = 1 by omega) with e | e <;> rw [e] <;> rfl
section
variable {K : jj_K} {w : wo_T}
theorem c_slv {P : wo_T → Prop} (h : ci w) {u : wo_T} {L : List Nat} {S : Nat} (hf : cf w L u) (hs : sb (gc_g w) (cb w) = some S) (k : ∀ u2, cf w L u2 → pl_ok (gc_g w) u2 23 S → P u2) : jj_Cv K mX0_solve [.ref 23, .ref 1, .int (nI S)] u P := by
  have hm := gc_m h.1
  obtain ⟨e1, e2⟩ := ev_lt hm
  have hg := cq_g hf.1
  obtain ⟨hbr, hSm, -⟩ := sb_brs hs
  refine c_bsolve (Or.inl rfl) (cq_ok hf.1 h.1) (by rw [hg]; exact hSm) (by rw [hg]; exact hbr) (by rw [hg]; exact hf.2.2.2.2.2) (fun u2 hfr hj2 h10 hpl => ?_)
  rw [hg] at hpl
  have hpl0 := hpl
  refine k u2 ?_ hpl
  refine ⟨cq_tr hf.1 ⟨wo_fr_up hfr (fun b hb => ?_) (fun b hb => ?_), fun j _ => by rw [hfr.1 0 (by simp)]⟩, by rw [hfr.1 0 (by simp)]; exact hf.2.1, ?_⟩
  · simp at hb; rcases hb with rfl | rfl | rfl | rfl | rfl <;> decide
  · simp at hb; rcases hb with rfl | rfl | rfl | rfl | rfl | rfl | rfl | rfl | rfl | rfl | rfl | rfl <;> decide
  · obtain ⟨s1, s2, s3, s4⟩ := hf.2.2
    refine ⟨bk_L_fr (w := u) (hj2 7 (by decide)) (hfr.1 24 (by simp)) (hfr.2 25 (by simp)) (hfr.2 26 (by simp)) s1, s2, ?_, fun T hT e => ?_⟩
    · unfold bn_c
      rw [hj2 8 (by decide), hj2 9 (by decide)]
      exact s3
    · rw [h10] at e
      rw [← (nI_eq (by omega) (by omega)).mp e]
      exact hpl0
theorem c_writeW {P : Int32 → wo_T → Prop} {g : gd_T} {s S N : Nat} (hs : s < 4) (hbr : gd_brs g S) (hp : pl_ok g w 23 S) (hN : N ≤ 20) (a1 a3 : Int32) (k : ∀ u, u.1 = w.1 → (∀ b, b ≠ 50 + 2 * s + 1 → u.2 b = w.2 b) → (∀ q, u.2 (50 + 2 * s + 1) q = if q < N then wv (w.1 (50 + 2 * s) 2) (fp (sq g S (q / 2)) (nI (q % 2))) else w.2 (50 + 2 * s + 1) q) → P (nI N) u) : jj_J K mX6_write (jj_Ri P) 75 [(0, .ref 0), (1, .int a1), (2, .ref (50 + 2 * s)), (3, .int a3), (4, .int (nI N)), (5, .int 0)] [] w := by
  obtain ⟨p, q, a1', a2, a3', a4, a5⟩ := hp
  have loop : ∀ d i z, i + d = N → z.1 = w.1 → (∀ b, b ≠ 50 + 2 * s + 1 → z.2 b = w.2 b) → (∀ q, z.2 (50 + 2 * s + 1) q = if q < i then wv (w.1 (50 + 2 * s) 2) (fp (sq g S (q / 2)) (nI (q % 2))) else w.2 (50 + 2 * s + 1) q) → jj_J K mX6_write (jj_Ri P) 75 [(0, .ref 0), (1, .int a1), (2, .ref (50 + 2 * s)), (3, .int a3), (4, .int (nI N)), (5, .int (nI i))] [] z := by
    intro d
    induction d with
    | zero =>
      intro i z hi z1 z2 z3
      have e0 : i = N := by omega
      subst e0
      apply vc_X6_write_75 P a1 s hs
      exact ⟨fun _ => k z z1 z2 z3, fun q => absurd (nI_le (by omega) (by omega)) q⟩
    | succ d ih =>
      intro i z hi z1 z2 z3
      obtain ⟨b1, b2, b3⟩ := a5 (i / 2) (by omega)
      have b1' : z.2 27 (i / 2) = nn_l (q (i / 2)) := by rw [z2 27 (by omega)]; exact b1
      have b4' : z.2 23 4 = nn_l p := by rw [z2 23 (by omega)]; exact a4
      apply vc_X6_write_75 P a1 s hs
      rw [nn_half (by omega), nn_ad1, nI_clamp (n := i) (by omega), nI_clamp (n := i / 2) (by omega), b1', b4']
      have hpar : nI i - nI (i / 2) * 2 = nI (i % 2) := by
        have := nn_par (a := i) (by omega)
        rw [nn_half (by omega)] at this
        exact this
      rw [hpar]
      refine ⟨fun q => absurd q (nI_ge (by omega) (by omega)), fun _ => ⟨nn_inn (by omega) (by decide), ?_⟩⟩
      refine c_lowest ⟨by omega, by omega⟩ ⟨by omega, by omega⟩ a1' (nI (i % 2)) ?_
      obtain ⟨f1, f2⟩ := sq_eq hbr.1 a1' a3' (i / 2)
      rw [f1, f2]
      have nx : ∀ x : Int64, x = wv (w.1 (50 + 2 * s) 2) (fp (sq g S (i / 2)) (nI (i % 2))) → jj_J K mX6_write (jj_Ri P) 75 [(0, .ref 0), (1, .int a1), (2, .ref (50 + 2 * s)), (3, .int a3), (4, .int (nI N)), (5, .int (nI (i + 1)))] [] (wo_l z (50 + 2 * s + 1) i x) := fun x ex => by
        refine ih (i + 1) _ (by omega) z1 (fun b hb => by rw [wo_l_ne b hb, z2 b hb]) (fun q => ?_)
        by_cases e : q = i
        · rw [e, wo_l_eq, if_pos (by omega), ex]
        · rw [wo_l_nk (by omega), z3]
          by_cases e2 : q < i
          · rw [if_pos e2, if_pos (by omega)]
          · rw [if_neg e2, if_neg (by omega)]
      refine ⟨fun h0 => ⟨nn_inn (by omega) (by decide), nx _ ?_⟩, fun h0 => ⟨nn_inn (by omega) (by decide), nx _ ?_⟩⟩
      · rw [z1] at h0
        unfold wv fp
        rw [if_neg h0]
      · rw [z1] at h0
        unfold wv fp
        rw [if_pos h0]
  exact loop N 0 w (by omega) rfl (fun _ _ => rfl) (fun q => by rw [if_neg (by omega)])
theorem m_writeW {P : Int32 → wo_T → Prop} {s z0 N S : Nat} (hs : s < 4) (hw : mi w) (hS : sb (gm_g w) (mb w) = some S) (h70 : w.1 70 s = nI z0) (hz : z0 ≤ 40) (hN : N ≤ z0 ∧ N ≤ 2 * gd_m (gm_g w) ∧ (N = z0 ∨ N = 2 * gd_m (gm_g w))) (k : ∀ u, mi u → wo_fr [58, 65, 66] [64, 67, 68, 71] w u → (∀ j, j ≠ 9 → j ≠ 13 → j ≠ 14 → j ≠ 15 → j ≠ 16 → u.1 58 j = w.1 58 j) → (∀ q, u.2 71 q = if 40 * s ≤ q ∧ q < 40 * s + N then wv (w.1 69 s) (fp (sq (gm_g w) S ((q - 40 * s) / 2)) (nI ((q - 40 * s) % 2))) else w.2 71 q) → P (nI N) u) : jj_J K mX7_write (jj_Ri P) 43 [(0, .ref 58), (1, .int (nI s)), (2, .int 0)] [] w := by
  have hm := gm_m hw.1
  have loop : ∀ d i z, i + d = N → mi z → wo_fr [58, 65, 66] [64, 67, 68, 71] w z → (∀ j, j ≠ 9 → j ≠ 13 → j ≠ 14 → j ≠ 15 → j ≠ 16 → z.1 58 j = w.1 58 j) → (∀ q, z.2 71 q = if 40 * s ≤ q ∧ q < 40 * s + i then wv (w.1 69 s) (fp (sq (gm_g w) S ((q - 40 * s) / 2)) (nI ((q - 40 * s) % 2))) else w.2 71 q) → jj_J K mX7_write (jj_Ri P) 43 [(0, .ref 58), (1, .int (nI s)), (2, .int (nI i))] [] z := by
    intro d
    induction d with
    | zero =>
      intro i z hi hz' zf z5 z7
      have e0 : i = N := by omega
      subst e0
      have hgz : gm_g z = gm_g w := gm_g_eq ⟨z5 5 (by decide) (by decide) (by decide) (by decide) (by decide), zf.1 59 (by decide), zf.1 60 (by decide), zf.1 61 (by decide), zf.1 62 (by decide)⟩
      apply vc_X7_write_43
      rw [nI_clamp (n := s) (by omega), zf.1 70 (by decide), h70]
      refine ⟨nn_inn (by omega) (by decide), fun _ => k z hz' zf z5 z7, fun q => m_pairs hz'.1 ?_⟩
      rw [hgz, nn_two]
      refine ⟨fun _ => k z hz' zf z5 z7, fun q2 => ?_⟩
      exfalso
      rcases hN.2.2 with e | e
      · exact q (nI_le (by omega) (by omega))
      · exact q2 (nI_le (by omega) (by omega))
    | succ d ih =>
      intro i z hi hz' zf z5 z7
      have hgz : gm_g z = gm_g w := gm_g_eq ⟨z5 5 (by decide) (by decide) (by decide) (by decide) (by decide), zf.1 59 (by decide), zf.1 60 (by decide), zf.1 61 (by decide), zf.1 62 (by decide)⟩
      have hbz : mb z = mb w := by unfold mb; rw [z5 6 (by decide) (by decide) (by decide) (by decide) (by decide)]
      apply vc_X7_write_43
      rw [nI_clamp (n := s) (by omega), zf.1 70 (by decide), h70]
      refine ⟨nn_inn (by omega) (by decide), fun q => absurd q (nI_ge (by omega) (by omega)), fun q => m_pairs hz'.1 ?_⟩
      rw [hgz, nn_two]
      refine ⟨fun q => absurd q (nI_ge (by omega) (by omega)), fun q2 => ?_⟩
      rw [nn_par (by omega), nn_half (by omega), nn_40, nn_ad1, nI_clamp (n := 40 * s + i) (by omega)]
      refine m_pullOf hz' (by rw [hgz]; omega) (isP_par i) (fun u hq hu => ⟨nn_inn (by omega) (by decide), ?_⟩)
      rw [hgz, hbz, hS]
      have e69 : u.1 69 s = w.1 69 s := by rw [hq.1.1 69 (by decide), zf.1 69 (by decide)]
      rw [e69]
      have nx : ∀ x : Int64, x = wv (w.1 69 s) (fp (sq (gm_g w) S (i / 2)) (nI (i % 2))) → jj_J K mX7_write (jj_Ri P) 43 [(0, .ref 58), (1, .int (nI s)), (2, .int (nI (i + 1)))] [] (wo_l u 71 (40 * s + i) x) := fun x ex => by
        refine ih (i + 1) _ (by omega) (mi_fr0 (w := u) (fun b _ _ => rfl) (fun b p q => wo_l_ne b (by omega)) (fun _ _ => rfl) hu) ⟨fun b hb => ?_, fun b hb => ?_⟩ (fun j p1 p2 p3 p4 p5 => ?_) (fun q => ?_)
        · show u.1 b = w.1 b
          rw [hq.1.1 b hb, zf.1 b hb]
        · have hb2 : b ∉ [64, 67, 68] := fun q => hb (by simp at q ⊢; omega)
          rw [wo_l_ne b (fun e => hb (by simp [e])), hq.1.2 b hb2, zf.2 b hb]
        · show u.1 58 j = w.1 58 j
          rw [hq.2 j p1 p2 p3 p4 p5, z5 j p1 p2 p3 p4 p5]
        · by_cases e : q = 40 * s + i
          · rw [e, wo_l_eq, if_pos ⟨by omega, by omega⟩, Nat.add_sub_cancel_left, ex]
          · rw [wo_l_nk (by omega), hq.1.2 71 (by decide), z7]
            by_cases e2 : 40 * s ≤ q ∧ q < 40 * s + i
            · rw [if_pos e2, if_pos ⟨e2.1, by omega⟩]
            · rw [if_neg e2, if_neg (fun y => e2 ⟨y.1, by omega⟩)]
      refine ⟨fun h0 => ⟨nn_inn (by omega) (by decide), nx _ ?_⟩, fun h0 => ⟨nn_inn (by omega) (by decide), nx _ ?_⟩⟩
      · unfold wv
        rw [if_neg h0]
      · unfold wv
        rw [if_pos h0]
  exact loop N 0 w (by omega) hw (wo_fr_rf _ _ _) (fun _ _ _ _ _ _ => rfl) (fun q => by rw [if_neg (by omega)])
theorem iv_write {u v : wo_T} {s N : Nat} {F : Nat → Int64} (h : iv w) (hs : s < 4) (hN : N ≤ 40) (u1 : u.1 = w.1) (u2 : ∀ b, b ≠ 50 + 2 * s + 1 → u.2 b = w.2 b) (u3 : ∀ q, u.2 (50 + 2 * s + 1) q = if q < N then F q else w.2 (50 + 2 * s + 1) q) (hv : mi v) (v1 : wo_fr [58, 65, 66] [64, 67, 68, 71] u v) (v5 : ∀ j, j ≠ 9 → j ≠ 13 → j ≠ 14 → j ≠ 15 → j ≠ 16 → v.1 58 j = u.1 58 j) (v7 : ∀ q, v.2 71 q = if 40 * s ≤ q ∧ q < 40 * s + N then F (q - 40 * s) else u.2 71 q) : iv v := by
  have l9 := h.2.2.2.2.2.2.2.2.2.2.2
  generalize hv0 : ((v.1, fun b => if b = 50 + 2 * s + 1 ∨ b = 71 then w.2 b else v.2 b) : wo_T) = v0
  have a1 : v0.1 = v.1 := by rw [← hv0]
  have a2 : ∀ b, b ≠ 50 + 2 * s + 1 → b ≠ 71 → v0.2 b = v.2 b := fun b p q => by
    rw [← hv0]
    show (if b = 50 + 2 * s + 1 ∨ b = 71 then w.2 b else v.2 b) = v.2 b
    rw [if_neg (by omega)]
  have a3 : ∀ b, b = 50 + 2 * s + 1 ∨ b = 71 → v0.2 b = w.2 b := fun b p => by
    rw [← hv0]
    show (if b = 50 + 2 * s + 1 ∨ b = 71 then w.2 b else v.2 b) = w.2 b
    rw [if_pos p]
  have hmi0 : mi v0 := mi_fr0 (w := v) (fun b _ _ => by rw [a1]) (fun b p q => a2 b (by omega) (by omega)) (fun j _ => by rw [a1]) hv
  have hq0 : mq w v0 := by
    refine ⟨⟨fun b hb => by rw [a1, v1.1 b hb, u1], fun b hb => ?_⟩, fun j p1 p2 p3 p4 p5 => by rw [a1, v5 j p1 p2 p3 p4 p5, u1]⟩
    by_cases e : b = 50 + 2 * s + 1 ∨ b = 71
    · exact a3 b e
    · rw [a2 b (by omega) (by omega), v1.2 b (fun q => hb (by simp at q ⊢; omega)), u2 b (by omega)]
  have hi0 : iv v0 := iv_m h hq0 hmi0
  have k9 := hi0.2.2.2.2.2.2.2.2.2.2.2
  refine iv_sh hi0 (fun b _ _ => by rw [a1]) (fun b hb => (a2 b (by omega) (by omega)).symm) (fun b _ _ => by rw [a1]) (fun b p q => (a2 b (by omega) (by omega)).symm) (fun j _ => by rw [a1]) (fun j _ => by rw [a1]) (by rw [← a1]; exact hi0.2.2.2.2.2.2.2.2.2.2.1) (fun r hr => ?_)
  obtain ⟨o1, o2, o3, o4⟩ := k9 r hr
  unfold lk_s
  rw [← a1]
  refine ⟨o1, o2, o3, fun q hq => ?_⟩
  have z1 : v.2 (51 + 2 * r) q = u.2 (51 + 2 * r) q := by rw [v1.2 _ (by simp; omega)]
  have z71 : u.2 71 = w.2 71 := u2 71 (by omega)
  rw [z1, v7, z71]
  by_cases e : r = s
  · subst e
    rw [show 51 + 2 * r = 50 + 2 * r + 1 by omega, u3, Nat.add_sub_cancel_left]
    by_cases x : q < N
    · rw [if_pos x, if_pos ⟨by omega, by omega⟩]
    · rw [if_neg x, if_neg (by omega), show 50 + 2 * r + 1 = 51 + 2 * r by omega, (l9 r hr).2.2.2 q hq]
  · rw [u2 _ (by omega), if_neg (by omega), (l9 r hr).2.2.2 q hq]
theorem s_write (h : iv w) (a : Int32) : e_i K mX6_write mX7_write [.ref 0, .int a] [.ref 58, .int a] w := by
  have l9 := h.2.2.2.2.2.2.2.2.2.2.2
  have hm10 := iv_m10 h
  obtain ⟨z1, z2⟩ := ev_lt hm10
  apply en_X6_write
  refine c_isSheet a (fun s hs e => ⟨fun _ => ⟨?_, ?_⟩, fun q => absurd q (by decide)⟩) (fun hno => ⟨fun q => absurd rfl q, fun _ => ?_⟩)
  · rw [e]; exact nn_inn hs (by decide)
  · subst e
    have v4 : vp_in (nI s) 4 := nn_inn hs (by decide)
    rw [nI_clamp (by omega)]
    obtain ⟨hst, hsz, ⟨n, hn', hnz⟩, hit⟩ := l9 s hs
    rcases hst with ⟨c1, c2, c3⟩ | ⟨c1, c2⟩
    · rw [c1]
      refine ⟨fun _ => c_frame h.1 (fun u L hf => ?_), fun q => absurd rfl q⟩
      have hne : ¬ w.1 69 s = -1 := by
        rcases c3 with q | q <;> rw [q] <;> decide
      cases hsb : sb (gc_g w) (cb w) with
      | none =>
        obtain ⟨hi, e1, e2, -⟩ := iv_c_g h hf.1 (cf_ci h.1 hf)
        refine ⟨fun q => absurd q (show ¬ (0 : Int32) ≤ -3 by decide), fun _ => ?_⟩
        apply en_X7_write
        refine m_isSheet (nI s) (fun s' hs' e' => ⟨fun _ => ⟨v4, ?_⟩, fun q => absurd q (by decide)⟩) (fun hno => absurd rfl (hno s hs))
        rw [nI_clamp (by omega), hf.1.1.1 69 (by decide)]
        refine ⟨fun _ => ?_, fun q => absurd q hne⟩
        rw [hi.2.1.2.1.1]
        refine m_best hi.2.1 hi.2.1.2.1.2 (fun u2 hq2 hu2 hT => ?_)
        rw [e1, e2, hsb]
        exact ⟨fun q => absurd rfl q, fun _ => ⟨rfl, iv_m hi hq2 hu2⟩⟩
      | some S =>
        obtain ⟨hbr, hSm, -⟩ := sb_brs hsb
        have eS : fo (some S) = nI S := rfl
        rw [eS]
        refine ⟨fun _ => ?_, fun q => absurd (nI_pos' (by omega)) q⟩
        refine c_slv h.1 hf hsb (fun u2 hf2 hpl => ?_)
        obtain ⟨hi, e1, e2, -⟩ := iv_c_g h hf2.1 (cf_ci h.1 hf2)
        refine c_pairs hi.1.1 (fun x ex => ?_)
        rw [cq_g hf2.1] at ex
        obtain ⟨N, hN1, hN2⟩ : ∃ N : Nat, x = nI N ∧ N ≤ n ∧ N ≤ 2 * gd_m (gc_g w) ∧ (N = n ∨ N = 2 * gd_m (gc_g w)) := by
          have k3 : u2.1 (50 + 2 * s) = w.1 (50 + 2 * s) := hf2.1.1.1 _ (fun q => by have := cq_i_lt _ q; omega)
          rw [nn_two, k3, hsz, hnz] at ex
          rcases Nat.lt_or_ge (2 * gd_m (gc_g w)) n with q | q
          · rw [if_pos (nI_lt q (by omega))] at ex
            exact ⟨2 * gd_m (gc_g w), ex, by omega, by omega, Or.inr rfl⟩
          · rw [if_neg (fun z => by have := (nI_ltI (by omega) (by omega)).mp z; omega)] at ex
            exact ⟨n, ex, by omega, by omega, Or.inl rfl⟩
        rw [hN1]
        refine c_writeW hs hbr hpl (by omega) (nI s) (nI S) (fun u3 x1 x2 x3 => ?_)
        have hmi3 : mi u3 := mi_fr (w := u2) (fun b _ => by rw [x1]) (fun b hb => x2 b (by omega)) hi.2.1
        have hg3 : gm_g u3 = gc_g w := by
          rw [← e1]
          exact gm_g_eq ⟨by rw [x1], by rw [x1], by rw [x1], by rw [x1], by rw [x1]⟩
        have hb3 : mb u3 = cb w := by
          rw [← e2]
          unfold mb; rw [x1]
        apply en_X7_write
        refine m_isSheet (nI s) (fun s' hs' e' => ⟨fun _ => ⟨v4, ?_⟩, fun q => absurd q (by decide)⟩) (fun hno => absurd rfl (hno s hs))
        have q69 : u3.1 69 = w.1 69 := by rw [x1, hf2.1.1.1 69 (by decide)]
        have q70 : u3.1 70 = w.1 70 := by rw [x1, hf2.1.1.1 70 (by decide)]
        rw [nI_clamp (by omega), q69]
        refine ⟨fun _ => ?_, fun q => absurd q hne⟩
        rw [hmi3.2.1.1]
        refine m_best hmi3 hmi3.2.1.2 (fun u4 hq4 hu4 hT => ?_)
        rw [hg3, hb3, hsb]
        have eb' : eb (some S) = nI S := rfl
        rw [eb']
        refine ⟨fun _ => ?_, fun q => absurd q (eb_ne (by omega))⟩
        have hg4 : gm_g u4 = gc_g w := (mq_g hq4).trans hg3
        have hb4 : mb u4 = cb w := (mq_b hq4).trans hb3
        refine m_writeW (N := N) hs hu4 (by rw [hg4, hb4]; exact hsb) (by rw [hq4.1.1 70 (by decide), q70]; exact hnz) hn' (by rw [hg4]; exact hN2) (fun v y1 y2 y3 y4 => ⟨rfl, ?_⟩)
        have f69 : u4.1 69 s = u2.1 (50 + 2 * s) 2 := by
          have k3 : u2.1 (50 + 2 * s) = w.1 (50 + 2 * s) := hf2.1.1.1 _ (fun q => by have := cq_i_lt _ q; omega)
          rw [hq4.1.1 69 (by decide), q69, k3, c2]
        refine iv_write (w := u2) (u := u3) (s := s) (N := N) (F := fun q => wv (u2.1 (50 + 2 * s) 2) (fp (sq (gc_g w) S (q / 2)) (nI (q % 2)))) hi hs (by omega) x1 x2 x3 y1 ⟨fun b hb => by rw [y2.1 b hb, hq4.1.1 b hb], fun b hb => by rw [y2.2 b hb, hq4.1.2 b (fun q => hb (by simp at q ⊢; omega))]⟩ (fun j p1 p2 p3 p4 p5 => by rw [y3 j p1 p2 p3 p4 p5, hq4.2 j p1 p2 p3 p4 p5]) (fun q => ?_)
        rw [y4, f69, hg4, hq4.1.2 71 (by decide)]
    · rw [c1]
      refine ⟨fun q => absurd q (by decide), fun _ => c_found 1 ?_⟩
      apply en_X7_write
      refine m_isSheet (nI s) (fun s' hs' e' => ⟨fun _ => ⟨v4, ?_⟩, fun q => absurd q (by decide)⟩) (fun hno => absurd rfl (hno s hs))
      rw [nI_clamp (by omega), wo_i_ne 69 (by decide), c2]
      exact ⟨fun q => absurd rfl q, fun _ => m_meets 1 ⟨rfl, iv_find h 1⟩⟩
  · apply en_X7_write
    exact m_isSheet a (fun s hs e => absurd e (hno s hs)) (fun _ => ⟨fun q => absurd rfl q, fun _ => ⟨rfl, h⟩⟩)
end

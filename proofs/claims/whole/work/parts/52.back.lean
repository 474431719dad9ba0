/-! ===== the same answers: back ===== -/
theorem gd_m_mono : ∀ a, a ≤ 5 → ∀ b, b ≤ a → b * (b - 1) / 2 ≤ a * (a - 1) / 2 := by decide
theorem gc_small {w u : wo_T} {n : Nat} (e1 : u.1 1 6 = nI n) (hn : n ≤ (gc_g w).1) (e2 : u.1 2 = w.1 2) (e3 : u.1 3 = w.1 3) (e4 : u.1 4 = w.1 4) (e6 : u.1 6 = w.1 6) (e7 : u.1 7 = w.1 7) (h : gc_ok w) : gc_ok u ∧ (gc_g u).1 = n := by
  have h5 := gc_n h
  have n1 : (gc_g u).1 = n := by
    show (u.1 1 6).toInt.toNat = n
    rw [e1, nn_nI_int (by omega)]; simp
  have n2 : (gc_g u).2.1 = (gc_g w).2.1 := by
    show (fun p => (u.1 2 (2 * p)).toInt) = (fun p => (w.1 2 (2 * p)).toInt)
    rw [e2]
  have n3 : (gc_g u).2.2.1 = (gc_g w).2.2.1 := by
    show (fun p => (u.1 2 (2 * p + 1)).toInt) = (fun p => (w.1 2 (2 * p + 1)).toInt)
    rw [e2]
  have n4 : (gc_g u).2.2.2.1 = (gc_g w).2.2.2.1 := by
    show (fun p => (u.1 3 p).toInt.toNat) = (fun p => (w.1 3 p).toInt.toNat)
    rw [e3]
  have n5 : (gc_g u).2.2.2.2 = (gc_g w).2.2.2.2 := by
    show (fun p => (u.1 4 p).toInt) = (fun p => (w.1 4 p).toInt)
    rw [e4]
  have nm : gd_m (gc_g u) ≤ gd_m (gc_g w) := by
    unfold gd_m
    rw [n1]
    exact gd_m_mono _ h5 _ hn
  have nr : ∀ k ax, gd_run (gc_g u) k ax = gd_run (gc_g w) k ax := fun k ax => by unfold gd_run; rw [n2, n3]
  have nq : ∀ k, gd_quad (gc_g u) k = gd_quad (gc_g w) k := fun k => by unfold gd_quad; rw [nr, nr]
  obtain ⟨⟨o1, o2, o3, o4⟩, a, b, c⟩ := h
  refine ⟨⟨⟨by rw [n1]; omega, fun p hp => ?_, fun p q hp hq hne => ?_, fun v hv => ?_⟩, by rw [n1]; exact e1, fun p hp => ?_, fun k hk => ?_⟩, n1⟩
  · rw [n1] at hp
    rw [n2, n3]
    exact o2 p (by omega)
  · rw [n1] at hp hq
    rw [n2, n3]
    exact o3 p q (by omega) (by omega) hne
  · rw [n1] at hv
    rw [n5]
    exact o4 v (by omega)
  · rw [n4, e3]
    exact b p hp
  · rw [e6, e7, nr, nr, nq]
    exact c k (by omega)
theorem gm_small {w u : wo_T} {n : Nat} (e1 : u.1 58 5 = nI n) (hn : n ≤ (gm_g w).1) (e2 : u.1 59 = w.1 59) (e2' : u.1 60 = w.1 60) (e3 : u.1 61 = w.1 61) (e4 : u.1 62 = w.1 62) (h : gm_ok w) : gm_ok u ∧ (gm_g u).1 = n := by
  have h5 := gm_n h
  have n1 : (gm_g u).1 = n := by
    show (u.1 58 5).toInt.toNat = n
    rw [e1, nn_nI_int (by omega)]; simp
  have n2 : (gm_g u).2.1 = (gm_g w).2.1 := by
    show (fun p => (u.1 59 p).toInt) = (fun p => (w.1 59 p).toInt)
    rw [e2]
  have n3 : (gm_g u).2.2.1 = (gm_g w).2.2.1 := by
    show (fun p => (u.1 60 p).toInt) = (fun p => (w.1 60 p).toInt)
    rw [e2']
  have n4 : (gm_g u).2.2.2.1 = (gm_g w).2.2.2.1 := by
    show (fun p => (u.1 61 p).toInt.toNat) = (fun p => (w.1 61 p).toInt.toNat)
    rw [e3]
  have n5 : (gm_g u).2.2.2.2 = (gm_g w).2.2.2.2 := by
    show (fun p => (u.1 62 p).toInt) = (fun p => (w.1 62 p).toInt)
    rw [e4]
  obtain ⟨⟨o1, o2, o3, o4⟩, a, b⟩ := h
  refine ⟨⟨⟨by rw [n1]; omega, fun p hp => ?_, fun p q hp hq hne => ?_, fun v hv => ?_⟩, by rw [n1]; exact e1, fun p hp => ?_⟩, n1⟩
  · rw [n1] at hp
    rw [n2, n3]
    exact o2 p (by omega)
  · rw [n1] at hp hq
    rw [n2, n3]
    exact o3 p q (by omega) (by omega) hne
  · rw [n1] at hv
    rw [n5]
    exact o4 v (by omega)
  · rw [n4, e3]
    exact b p hp
theorem nn_dec : ∀ n : Nat, n ≤ 5 → 0 < n → nI n - 1 = nI (n - 1) := by decide +kernel
section
variable {K : jj_K} {w : wo_T}
theorem s_back (h : iv w) : e_i K mX6_back mX7_back [.ref 0] [.ref 58] w := by
  have hg := iv_g h
  have hn := gc_n h.1.1
  have l1 := h.2.2.2.1
  have l7 := h.2.2.2.2.2.2.2.2.2.1
  have hp1 := h.1.1.2.1
  have key : ∀ m : Nat, m ≤ 10 → nI (2 ^ m) - 1 = nI (2 ^ m - 1) := by decide +kernel
  apply en_X6_back
  rw [hp1]
  rcases Nat.eq_zero_or_pos (gc_g w).1 with h0 | hpos
  · rw [h0]
    refine ⟨fun q => absurd q (by decide), fun _ => ?_⟩
    apply en_X7_back
    rw [← l1, hp1, h0]
    exact ⟨fun q => absurd rfl q, fun _ => ⟨rfl, h⟩⟩
  · refine ⟨fun _ => ?_, fun q => absurd (nI_lt (a := 0) hpos (by omega)) q⟩
    rw [nn_dec _ hn hpos]
    generalize hn1 : (gc_g w).1 - 1 = n1
    obtain ⟨ho1, hgn1⟩ := gc_small (w := w) (u := wo_i w 1 6 (nI n1)) (n := n1) wo_i_eq (by omega) (wo_i_ne _ (by decide)) (wo_i_ne _ (by decide)) (wo_i_ne _ (by decide)) (wo_i_ne _ (by decide)) (wo_i_ne _ (by decide)) h.1.1
    refine c_everyPair ho1 ?_
    have hm1 := gc_m ho1
    have em : gd_m (gc_g (wo_i w 1 6 (nI n1))) = n1 * (n1 - 1) / 2 := by unfold gd_m; rw [hgn1]
    rw [em] at hm1 ⊢
    generalize hme : n1 * (n1 - 1) / 2 = m1 at *
    rw [wo_i_ne 0 (by decide), h.1.2.1.1, nn_and]
    have hBlt : cb w &&& (2 ^ m1 - 1) < 2 ^ m1 := Nat.and_lt_two_pow _ (by have : 0 < 2 ^ m1 := Nat.pow_pos (by decide); omega)
    generalize hBe : cb w &&& (2 ^ m1 - 1) = B1 at *
    have hp10 : 2 ^ m1 ≤ 1024 := by
      have : (2 : Nat) ^ m1 ≤ 2 ^ 10 := Nat.pow_le_pow_right (by decide) hm1
      omega
    generalize hu : wo_i (wo_i (wo_i w 1 6 (nI n1)) 0 6 (nI B1)) 0 8 1 = u
    have f1 : ∀ b, b ≠ 0 → b ≠ 1 → u.1 b = w.1 b := fun c x y => by rw [← hu, wo_i_ne c x, wo_i_ne c x, wo_i_ne c y]
    have u16 : u.1 1 6 = nI n1 := by rw [← hu, wo_i_ne 1 (by decide), wo_i_ne 1 (by decide), wo_i_eq]
    have u06 : u.1 0 6 = nI B1 := by rw [← hu, wo_i_nk (by decide), wo_i_eq]
    have u07 : u.1 0 7 = w.1 0 7 := by rw [← hu, wo_i_nk (by decide), wo_i_nk (by decide), wo_i_ne 0 (by decide)]
    have u08 : u.1 0 8 = 1 := by rw [← hu, wo_i_eq]
    have u2 : u.2 = w.2 := by rw [← hu]; rfl
    rw [u16]
    obtain ⟨hou, hgu⟩ := gc_small (w := w) (u := u) (n := n1) u16 (by omega) (f1 2 (by decide) (by decide)) (f1 3 (by decide) (by decide)) (f1 4 (by decide) (by decide)) (f1 6 (by decide) (by decide)) (f1 7 (by decide) (by decide)) h.1.1
    have hmu : mi u := mi_fr (fun b hb => f1 b (by omega) (by omega)) (fun b hb => by rw [u2]) h.2.1
    apply en_X7_back
    have e58 : u.1 58 = w.1 58 := f1 58 (by decide) (by decide)
    have e585 : w.1 58 5 = nI (gc_g w).1 := by rw [← l1]; exact hp1
    have ed : u.1 58 5 - 1 = nI n1 := by rw [e58, e585, nn_dec _ hn hpos, hn1]
    rw [ed]
    have ne0 : ¬ u.1 58 5 = 0 := by
      rw [e58, e585]
      intro q
      exact absurd ((nI_eq (b := 0) (by omega) (by omega)).mp q) (by omega)
    refine ⟨fun _ => ?_, fun q => absurd q ne0⟩
    have hmn : (gm_g u).1 = (gc_g w).1 := by
      show (u.1 58 5).toInt.toNat = (gc_g w).1
      rw [e58, e585, nn_nI_int (by omega)]; simp
    obtain ⟨hm1', hgm1⟩ := gm_small (w := u) (u := wo_i u 58 5 (nI n1)) (n := n1) wo_i_eq (by omega) (wo_i_ne _ (by decide)) (wo_i_ne _ (by decide)) (wo_i_ne _ (by decide)) (wo_i_ne _ (by decide)) hmu.1
    refine m_pairs hm1' ?_
    have em2 : gd_m (gm_g (wo_i u 58 5 (nI n1))) = m1 := by unfold gd_m; rw [hgm1]; exact hme
    have e586 : (wo_i u 58 5 (nI n1)).1 58 6 = nI (cb w) := by
      rw [wo_i_nk (by decide), e58, ← l7]
      exact h.1.2.1.1
    rw [em2, nn_one (by omega), key _ hm1, e586, nn_and, hBe]
    generalize hv : wo_i (wo_i (wo_i u 58 5 (nI n1)) 58 6 (nI B1)) 58 13 0 = v
    have v1 : ∀ b, b ≠ 58 → v.1 b = u.1 b := fun c x => by rw [← hv, wo_i_ne c x, wo_i_ne c x, wo_i_ne c x]
    have v5 : v.1 58 5 = nI n1 := by rw [← hv, wo_i_nk (by decide), wo_i_nk (by decide), wo_i_eq]
    have v6 : v.1 58 6 = nI B1 := by rw [← hv, wo_i_nk (by decide), wo_i_eq]
    have v13 : v.1 58 13 = 0 := by rw [← hv, wo_i_eq]
    have v21 : v.1 58 21 = w.1 58 21 := by rw [← hv, wo_i_nk (by decide), wo_i_nk (by decide), wo_i_nk (by decide), e58]
    have v2 : v.2 = u.2 := by rw [← hv]; rfl
    rw [v5]
    refine ⟨rfl, ?_⟩
    obtain ⟨homv, hgmv⟩ := gm_small (w := u) (u := v) (n := n1) v5 (by omega) (v1 59 (by decide)) (v1 60 (by decide)) (v1 61 (by decide)) (v1 62 (by decide)) hmu.1
    obtain ⟨a1, a2, a3, -, l2, l3, l4, l5, l6, -, l8, l9⟩ := h
    have hcu : ci u := by
      have hcb : cb u = B1 := cb_of (by omega) u06
      have emu : gd_m (gc_g u) = m1 := by unfold gd_m; rw [hgu]; exact hme
      unfold ci
      rw [hcb, emu, u08]
      exact ⟨hou, ⟨u06, hBlt⟩, fun q => absurd q (by decide)⟩
    have hmv : mi v := by
      have hmb : mb v = B1 := mb_of (by omega) v6
      have emv : gd_m (gm_g v) = m1 := by unfold gd_m; rw [hgmv]; exact hme
      unfold mi
      rw [hmb, emv]
      exact ⟨homv, ⟨v6, hBlt⟩, Or.inl v13⟩
    have hcc : hc v = hc w := by unfold hc; rw [v1 5 (by decide), f1 5 (by decide) (by decide)]
    refine ⟨ci_fr (w := u) (fun b hb => v1 b (by omega)) (fun b hb => by rw [v2]) hcu, hmv, by rw [hcc]; exact a3, ?_, ?_, ?_, ?_, ?_, ?_, ?_, ?_, fun s hs => lk_s_eq (w := w) hs (fun b x y => (v1 b (by omega)).trans (f1 b (by omega) (by omega))) (fun b x y => by rw [v2, u2]) ((v1 69 (by decide)).trans (f1 69 (by decide) (by decide))) ((v1 70 (by decide)).trans (f1 70 (by decide) (by decide))) (by rw [v2, u2]) (l9 s hs)⟩
    · rw [v1 1 (by decide), u16, v5]
    · intro p; rw [v1 2 (by decide), f1 2 (by decide) (by decide), v1 59 (by decide), f1 59 (by decide) (by decide)]; exact l2 p
    · intro p; rw [v1 2 (by decide), f1 2 (by decide) (by decide), v1 60 (by decide), f1 60 (by decide) (by decide)]; exact l3 p
    · rw [v1 3 (by decide), f1 3 (by decide) (by decide), v1 61 (by decide), f1 61 (by decide) (by decide)]; exact l4
    · rw [v1 4 (by decide), f1 4 (by decide) (by decide), v1 62 (by decide), f1 62 (by decide) (by decide)]; exact l5
    · rw [v1 5 (by decide), f1 5 (by decide) (by decide), v1 63 (by decide), f1 63 (by decide) (by decide)]; exact l6
    · rw [v1 0 (by decide), u06, v6]
    · rw [v1 0 (by decide), u07, v21]; exact l8
end

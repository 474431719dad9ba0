/-! ===== the same answers: what changes bars, holds, loads, displacements ===== -/
theorem gc_ok_of {w u : wo_T} (e1 : u.1 1 = w.1 1) (e2 : u.1 2 = w.1 2) (e6 : u.1 6 = w.1 6) (e7 : u.1 7 = w.1 7) (hL : ∀ v, v < 2 * (gc_g w).1 → -9 ≤ (u.1 4 v).toInt ∧ (u.1 4 v).toInt ≤ 9) (hH : ∀ p, p < 5 → ∃ b : Nat, b < 4 ∧ u.1 3 p = nI b) (h : gc_ok w) : gc_ok u := by
  have n1 : (gc_g u).1 = (gc_g w).1 := by
    show (u.1 1 6).toInt.toNat = (w.1 1 6).toInt.toNat
    rw [e1]
  have n2 : (gc_g u).2.1 = (gc_g w).2.1 := by
    show (fun p => (u.1 2 (2 * p)).toInt) = (fun p => (w.1 2 (2 * p)).toInt)
    rw [e2]
  have n3 : (gc_g u).2.2.1 = (gc_g w).2.2.1 := by
    show (fun p => (u.1 2 (2 * p + 1)).toInt) = (fun p => (w.1 2 (2 * p + 1)).toInt)
    rw [e2]
  have nm : gd_m (gc_g u) = gd_m (gc_g w) := by unfold gd_m; rw [n1]
  have nr : ∀ k ax, gd_run (gc_g u) k ax = gd_run (gc_g w) k ax := fun k ax => by unfold gd_run; rw [n2, n3]
  have nq : ∀ k, gd_quad (gc_g u) k = gd_quad (gc_g w) k := fun k => by unfold gd_quad; rw [nr, nr]
  obtain ⟨⟨o1, o2, o3, o4⟩, a, b, c⟩ := h
  refine ⟨⟨by rw [n1]; exact o1, fun p hp => ?_, fun p q hp hq hne => ?_, fun v hv => ?_⟩, by rw [n1, e1]; exact a, fun p hp => ?_, fun k hk => ?_⟩
  · rw [n1] at hp
    rw [n2, n3]
    exact o2 p hp
  · rw [n1] at hp hq
    rw [n2, n3]
    exact o3 p q hp hq hne
  · rw [n1] at hv
    exact hL v hv
  · obtain ⟨b, hb, e⟩ := hH p hp
    have : (gc_g u).2.2.2.1 p = b := by
      show (u.1 3 p).toInt.toNat = b
      rw [e, nn_nI_int (by omega)]; simp
    rw [this]
    exact ⟨e, hb⟩
  · rw [nm] at hk
    rw [e6, e7, nr, nr, nq]
    exact c k hk
theorem gm_ok_of {w u : wo_T} (e1 : u.1 58 5 = w.1 58 5) (e2 : u.1 59 = w.1 59) (e3 : u.1 60 = w.1 60) (hL : ∀ v, v < 2 * (gm_g w).1 → -9 ≤ (u.1 62 v).toInt ∧ (u.1 62 v).toInt ≤ 9) (hH : ∀ p, p < 5 → ∃ b : Nat, b < 4 ∧ u.1 61 p = nI b) (h : gm_ok w) : gm_ok u := by
  have n1 : (gm_g u).1 = (gm_g w).1 := by
    show (u.1 58 5).toInt.toNat = (w.1 58 5).toInt.toNat
    rw [e1]
  have n2 : (gm_g u).2.1 = (gm_g w).2.1 := by
    show (fun p => (u.1 59 p).toInt) = (fun p => (w.1 59 p).toInt)
    rw [e2]
  have n3 : (gm_g u).2.2.1 = (gm_g w).2.2.1 := by
    show (fun p => (u.1 60 p).toInt) = (fun p => (w.1 60 p).toInt)
    rw [e3]
  obtain ⟨⟨o1, o2, o3, o4⟩, a, b⟩ := h
  refine ⟨⟨by rw [n1]; exact o1, fun p hp => ?_, fun p q hp hq hne => ?_, fun v hv => ?_⟩, by rw [n1, e1]; exact a, fun p hp => ?_⟩
  · rw [n1] at hp
    rw [n2, n3]
    exact o2 p hp
  · rw [n1] at hp hq
    rw [n2, n3]
    exact o3 p q hp hq hne
  · rw [n1] at hv
    exact hL v hv
  · obtain ⟨b, hb, e⟩ := hH p hp
    have : (gm_g u).2.2.2.1 p = b := by
      show (u.1 61 p).toInt.toNat = b
      rw [e, nn_nI_int (by omega)]; simp
    rw [this]
    exact ⟨e, hb⟩
theorem gc_held {w : wo_T} (h : gc_ok w) : ∀ p, p < 5 → ∃ b : Nat, b < 4 ∧ w.1 3 p = nI b := fun p hp => ⟨_, (h.2.2.1 p hp).2, (h.2.2.1 p hp).1⟩
theorem gm_held {w : wo_T} (h : gm_ok w) : ∀ p, p < 5 → ∃ b : Nat, b < 4 ∧ w.1 61 p = nI b := fun p hp => ⟨_, (h.2.2 p hp).2, (h.2.2 p hp).1⟩
/-- stale, with the same number of points: all that counts is the ground -/
theorem ci_stale {w u : wo_T} (hok : gc_ok u) (h6 : u.1 0 6 = w.1 0 6) (h8 : u.1 0 8 = 1) (hn : gd_m (gc_g u) = gd_m (gc_g w)) (h : ci w) : ci u := by
  have hb : cb u = cb w := by unfold cb; rw [h6]
  unfold ci
  rw [hb, h6, hn, h8]
  exact ⟨hok, h.2.1, fun q => absurd q (by decide)⟩
theorem mi_stale {w u : wo_T} (hok : gm_ok u) (h6 : u.1 58 6 = w.1 58 6) (h13 : u.1 58 13 = 0) (hn : gd_m (gm_g u) = gd_m (gm_g w)) (h : mi w) : mi u := by
  have hb : mb u = mb w := by unfold mb; rw [h6]
  unfold mi
  rw [hb, h6, hn]
  exact ⟨hok, h.2.1, Or.inl h13⟩
theorem ci_bars {w : wo_T} {B : Nat} (h : ci w) (hB : B < 2 ^ gd_m (gc_g w)) : ci (wo_i w 0 6 (nI B)) := by
  rcases Classical.em (w.1 0 8 = 0) with q | q
  · obtain ⟨L, hL⟩ := h.2.2 q
    exact ci_set (L := L) h.1 hB hL
  · have hg : gc_g (wo_i w 0 6 (nI B)) = gc_g w := by
      unfold gc_g
      rw [wo_i_ne 1 (by decide), wo_i_ne 2 (by decide), wo_i_ne 3 (by decide), wo_i_ne 4 (by decide)]
    obtain ⟨e1, e2⟩ := ev_lt (gc_m h.1)
    have hcb : cb (wo_i w 0 6 (nI B)) = B := cb_of (by omega) wo_i_eq
    unfold ci
    rw [hg, hcb, wo_i_eq, wo_i_nk (by decide)]
    refine ⟨?_, ⟨rfl, hB⟩, fun z => absurd z q⟩
    unfold gc_ok
    rw [hg, wo_i_ne 1 (by decide), wo_i_ne 3 (by decide), wo_i_ne 6 (by decide), wo_i_ne 7 (by decide)]
    exact h.1
section
variable {K : jj_K} {w : wo_T}
theorem iv_B {u u2 : wo_T} {B : Nat} (h : iv w) (hq : cqB w u B) (hu : ci u) (hq2 : mqB u u2 B) (hu2 : mi u2) : iv u2 := by
  have n1 : ∀ b, 49 ≤ b → u.1 b = w.1 b := fun b hb => hq.1.1 b (fun q => by have := cq_i_lt b q; omega)
  have n2 : ∀ b, 49 ≤ b → u.2 b = w.2 b := fun b hb => hq.1.2 b (fun q => by have := cq_l_lt b q; omega)
  have m1 : ∀ b, b < 58 → u2.1 b = u.1 b := fun b hb => hq2.1.1 b (by simp; omega)
  have m2 : ∀ b, b < 58 → u2.2 b = u.2 b := fun b hb => hq2.1.2 b (by simp; omega)
  obtain ⟨a, b, c, l1, l2, l3, l4, l5, l6, l7, l8, l9⟩ := h
  have hcc : hc u2 = hc w := by unfold hc; rw [m1 5 (by decide), hq.1.1 5 (by decide)]
  refine ⟨ci_fr m1 m2 hu, hu2, by rw [hcc]; exact c, ?_, ?_, ?_, ?_, ?_, ?_, ?_, ?_, fun s hs => lk_s_eq (w := w) hs (fun b x y => (m1 b y).trans (n1 b x)) (fun b x y => (m2 b y).trans (n2 b x)) ((hq2.1.1 69 (by simp)).trans (n1 69 (by decide))) ((hq2.1.1 70 (by simp)).trans (n1 70 (by decide))) ((hq2.1.2 71 (by simp)).trans (n2 71 (by decide))) (l9 s hs)⟩
  · rw [m1 1 (by decide), hq.1.1 1 (by decide), hq2.2.1 5 (by decide) (by decide) (by decide) (by decide) (by decide) (by decide), n1 58 (by decide)]; exact l1
  · intro p; rw [m1 2 (by decide), hq.1.1 2 (by decide), hq2.1.1 59 (by simp), n1 59 (by decide)]; exact l2 p
  · intro p; rw [m1 2 (by decide), hq.1.1 2 (by decide), hq2.1.1 60 (by simp), n1 60 (by decide)]; exact l3 p
  · rw [m1 3 (by decide), hq.1.1 3 (by decide), hq2.1.1 61 (by simp), n1 61 (by decide)]; exact l4
  · rw [m1 4 (by decide), hq.1.1 4 (by decide), hq2.1.1 62 (by simp), n1 62 (by decide)]; exact l5
  · rw [m1 5 (by decide), hq.1.1 5 (by decide), hq2.1.1 63 (by simp), n1 63 (by decide)]; exact l6
  · rw [m1 0 (by decide), hq.2.2, hq2.2.2]
  · rw [m1 0 (by decide), hq.2.1 7 (by decide) (by decide), hq2.2.1 21 (by decide) (by decide) (by decide) (by decide) (by decide) (by decide), n1 58 (by decide)]; exact l8
/-- the model's part, behind a change of the class's bars -/
theorem iv_cB {u : wo_T} {B : Nat} (h : iv w) (hq : cqB w u B) : mi u ∧ gm_g u = gc_g w ∧ mb u = cb w := by
  have n1 : ∀ b, 49 ≤ b → u.1 b = w.1 b := fun b hb => hq.1.1 b (fun q => by have := cq_i_lt b q; omega)
  have n2 : ∀ b, 49 ≤ b → u.2 b = w.2 b := fun b hb => hq.1.2 b (fun q => by have := cq_l_lt b q; omega)
  refine ⟨mi_fr (fun b hb => n1 b (by omega)) (fun b hb => n2 b (by omega)) h.2.1, ?_, ?_⟩
  · rw [← iv_g h]
    exact gm_g_eq ⟨by rw [n1 58 (by decide)], n1 59 (by decide), n1 60 (by decide), n1 61 (by decide), n1 62 (by decide)⟩
  · rw [← iv_b h]
    unfold mb
    rw [n1 58 (by decide)]
theorem s_grow (h : iv w) : e_i K mX6_grow mX7_grow [.ref 0] [.ref 58] w := by
  refine c_grow h.1 (fun u L hf hn => ?_) (fun u S hs hq hu => ?_)
  · obtain ⟨hi, e1, e2, -⟩ := iv_c_g h hf.1 (cf_ci h.1 hf)
    refine m_grow hi.2.1 (fun u2 hq2 hu2 _ => ⟨rfl, iv_m hi hq2 hu2⟩) (fun u2 S hs _ _ => ?_)
    rw [e1, e2, hn] at hs; cases hs
  · obtain ⟨hmi, e1, e2⟩ := iv_cB h hq
    refine m_grow hmi (fun u2 hq2 hu2 hn => ?_) (fun u2 S2 hs2 hq2 hu2 => ?_)
    · rw [e1, e2, hs] at hn; cases hn
    · rw [e1, e2] at hq2 ⊢
      exact ⟨rfl, iv_B h hq hu hq2 hu2⟩
theorem s_prune (h : iv w) : e_i K mX6_prune mX7_prune [.ref 0] [.ref 58] w := by
  refine c_prune h.1 (fun u L hf hn => ?_) (fun u S hs hq hu => ?_)
  · obtain ⟨hi, e1, e2, -⟩ := iv_c_g h hf.1 (cf_ci h.1 hf)
    refine m_prune hi.2.1 (fun u2 hq2 hu2 _ => ⟨rfl, iv_m hi hq2 hu2⟩) (fun u2 S hs _ _ => ?_)
    rw [e1, e2, hn] at hs; cases hs
  · obtain ⟨hmi, e1, e2⟩ := iv_cB h hq
    refine m_prune hmi (fun u2 hq2 hu2 hn => ?_) (fun u2 S2 hs2 hq2 hu2 => ?_)
    · rw [e1, e2, hs] at hn; cases hn
    · rw [e1, e2, hs] at hs2
      cases hs2
      rw [e2]
      exact ⟨rfl, iv_B h hq hu hq2 hu2⟩
/-- bars set on both sides -/
theorem iv_bars {B : Nat} (h : iv w) (hB : B < 2 ^ gd_m (gc_g w)) : iv (wo_i (wo_i w 0 6 (nI B)) 58 6 (nI B)) := by
  have hq : cqB w (wo_i w 0 6 (nI B)) B := ⟨wo_fr_i (wo_fr_rf _ _ _) (by simp) _ _, fun j a b => wo_i_nk (by omega), wo_i_eq⟩
  obtain ⟨hmi, e1, e2⟩ := iv_cB h hq
  exact iv_B h hq (ci_bars h.1 hB) ⟨wo_fr_i (wo_fr_rf _ _ _) (by simp) _ _, fun j a b c d e f => wo_i_nk (by omega), wo_i_eq⟩ (mi_set hmi (by rw [e1]; exact hB))
theorem s_bar (h : iv w) (a : Int32) : e_i K mX6_bar mX7_bar [.ref 0, .int a] [.ref 58, .int a] w := by
  have hm := iv_m10 h
  obtain ⟨f1, f2⟩ := ev_lt hm
  have hg := iv_g h
  apply en_X6_bar
  refine c_hasPair h.1.1 a (fun j hj e => ⟨fun _ => ?_, fun q => absurd q (by decide)⟩) (fun hno => ⟨fun q => absurd rfl q, fun _ => ?_⟩)
  · subst e
    rw [h.1.2.1.1, nn_one (by omega), nn_xor, wo_i_eq]
    have hB : cb w ^^^ 2 ^ j < 2 ^ gd_m (gc_g w) := Nat.xor_lt_two_pow h.1.2.1.2 (Nat.pow_lt_pow_right (by decide) hj)
    have hq : cqB w (wo_i w 0 6 (nI (cb w ^^^ 2 ^ j))) (cb w ^^^ 2 ^ j) := ⟨wo_fr_i (wo_fr_rf _ _ _) (by simp) _ _, fun j a b => wo_i_nk (by omega), wo_i_eq⟩
    obtain ⟨hmi, e1, e2⟩ := iv_cB h hq
    apply en_X7_bar
    refine m_isPair hmi.1 (nI j) (fun j' hj' e' => ⟨fun _ => ?_, fun q => absurd q (by decide)⟩) (fun hno => absurd rfl (hno j (by rw [e1]; exact hj)))
    have hb : (wo_i w 0 6 (nI (cb w ^^^ 2 ^ j))).1 58 6 = nI (cb w) := by
      rw [wo_i_ne 58 (by decide), ← h.2.2.2.2.2.2.2.2.2.1]
      exact h.1.2.1.1
    rw [hb, nn_one (by omega), nn_xor, wo_i_eq]
    exact ⟨rfl, iv_bars h hB⟩
  · apply en_X7_bar
    exact m_isPair h.2.1.1 a (fun j' hj' e' => absurd e' (hno j' (by rw [← hg]; exact hj'))) (fun _ => ⟨fun q => absurd rfl q, fun _ => ⟨rfl, h⟩⟩)
theorem s_all (h : iv w) : e_i K mX6_all mX7_all [.ref 0] [.ref 58] w := by
  have hm := iv_m10 h
  have hg := iv_g h
  apply en_X6_all
  refine c_everyPair h.1.1 ?_
  have hB : 2 ^ gd_m (gc_g w) - 1 < 2 ^ gd_m (gc_g w) := by
    have : 0 < 2 ^ gd_m (gc_g w) := Nat.pow_pos (by decide)
    omega
  have hci := ci_bars h.1 hB
  have hq : cqB w (wo_i w 0 6 (nI (2 ^ gd_m (gc_g w) - 1))) (2 ^ gd_m (gc_g w) - 1) := ⟨wo_fr_i (wo_fr_rf _ _ _) (by simp) _ _, fun j a b => wo_i_nk (by omega), wo_i_eq⟩
  obtain ⟨hmi, e1, e2⟩ := iv_cB h hq
  refine c_pairs hci.1 ?_
  rw [cqB_g hq]
  apply en_X7_all
  refine m_pairs hmi.1 ?_
  rw [e1, nn_one (by omega)]
  have key : ∀ m : Nat, m ≤ 10 → nI (2 ^ m) - 1 = nI (2 ^ m - 1) := by decide +kernel
  rw [key _ hm]
  have hiv := iv_bars h hB
  refine m_pairs hiv.2.1.1 ⟨?_, hiv⟩
  have hmi2 := mi_set (B := 2 ^ gd_m (gc_g w) - 1) hmi (by rw [e1]; exact hB)
  have : gm_g (wo_i (wo_i w 0 6 (nI (2 ^ gd_m (gc_g w) - 1))) 58 6 (nI (2 ^ gd_m (gc_g w) - 1))) = gm_g (wo_i w 0 6 (nI (2 ^ gd_m (gc_g w) - 1))) := gm_g_eq ⟨wo_i_nk (by decide), wo_i_ne _ (by decide), wo_i_ne _ (by decide), wo_i_ne _ (by decide), wo_i_ne _ (by decide)⟩
  rw [this, e1]
end

/-! ===== the tableau's methods ===== -/
theorem gd_br_I {g : gd_T} (h : gd_ok g) {k : Nat} (hk : k < gd_m g) (v : Nat) : nn_I (gd_br g k v) := by
  have := gd_run_le h hk (v % 2)
  unfold gd_br
  constructor <;> (split <;> (try split) <;> omega)
theorem gc_load {w : wo_T} (h : gc_ok w) {v : Nat} (hv : v < 2 * (gc_g w).1) : (-(w.1 4 v)).toInt64 = nn_l (-((gc_g w).2.2.2.2 v)) := by
  have hb := h.1.2.2.2 v hv
  have e : w.1 4 v = nn_i ((gc_g w).2.2.2.2 v) := nn_i_of _
  rw [e, nn_i_neg, nn_i_l ⟨by omega, by omega⟩]
def tl_I (g : gd_T) (A : Nat) (w : wo_T) (v : Nat) (u : wo_T) : Prop := wo_fr [8, 20] [10, 21] w u ∧ u.1 8 7 = nI (gd_m g) ∧ u.1 20 0 = nI 0 ∧ u.2 21 0 = nn_l 1 ∧ u.1 8 6 = nI (tb_fw g v).length ∧ ∀ r, r < (tb_fw g v).length → ∀ c, c ≤ gd_m g → u.2 10 (r * 11 + c) = nn_l (tb_v g A c ((tb_fw g v).getD r 0))
section
variable {K : jj_K} {w : wo_T}
theorem tl_in {P : wo_T → Prop} (h : gc_ok w) (A : Nat) (hA : A < 1024) (v : Nat) (hv : v < 2 * (gc_g w).1) (hf : gd_free (gc_g w) v = true)
    (kk : ∀ u, tl_I (gc_g w) A w (v + 1) u → jj_J K mX5_lay (jj_Rv P) 37 [(0, .ref 8), (1, .ref 1), (2, .int (nI A)), (3, .ref 10), (4, .int (nI (v + 1)))] [] u) :
    ∀ d c u, c + d = gd_m (gc_g w) → tl_I (gc_g w) A w v u → (∀ c', c' < c → u.2 10 ((tb_fw (gc_g w) v).length * 11 + c') = nn_l (tb_v (gc_g w) A c' v)) →
      jj_J K mX5_lay (jj_Rv P) 72 [(0, .ref 8), (1, .ref 1), (2, .int (nI A)), (3, .ref 10), (4, .int (nI v)), (5, .int (nI ((tb_fw (gc_g w) v).length * 11))), (6, .int (nI c))] [] u := by
  have hn := gc_n h
  have hm := gc_m h
  have hr := tb_fw_len (gc_g w) v
  generalize hr0 : (tb_fw (gc_g w) v).length = r0 at hr
  intro d
  induction d with
  | zero =>
    intro c u hc hI hrow
    have ec : c = gd_m (gc_g w) := by omega
    subst ec
    obtain ⟨hfr, h87, h20, h21, h86, hcells⟩ := hI
    apply vc_X5_lay_72 P _ 10 rfl
    rw [h87]
    refine ⟨fun _ => ⟨nn_inn (by omega) (by decide), ?_⟩, fun q => absurd (nI_le (Nat.le_refl _) (by omega)) q⟩
    rw [nI_add, nI_clamp (by omega), nI_clamp (by omega)]
    refine ⟨nn_inn (by omega) (by decide), ?_⟩
    have hok : gc_ok u := gc_ok_eq (fun b hb => hfr.1 b (by simp; omega)) h
    have hg : gc_g u = gc_g w := gc_g_eq (fun b hb => hfr.1 b (by simp; omega))
    rw [gc_load hok (by rw [hg]; exact hv), hg, wo_l_1, h86, nn_ad1]
    have hlen : (tb_fw (gc_g w) (v + 1)).length = r0 + 1 := by rw [tb_fw_succ, hf]; simp [hr0]
    apply kk
    refine ⟨wo_fr_i (wo_fr_l hfr (by simp) _ _) (by simp) _ _, ?_, ?_, ?_, ?_, ?_⟩
    · rw [wo_i_nk (by decide)]; exact h87
    · rw [wo_i_nk (by decide)]; exact h20
    · rw [wo_i_2, wo_l_nk (by omega)]; exact h21
    · rw [wo_i_eq, hlen, hr0]; exact nn_ad1 _
    · intro r hr1 c hc1
      rw [hlen] at hr1
      rw [wo_i_2]
      have hget : ∀ r, r < r0 → (tb_fw (gc_g w) (v + 1)).getD r 0 = (tb_fw (gc_g w) v).getD r 0 := by
        intro r hr2
        show ((tb_fw (gc_g w) (v + 1))[r]?).getD 0 = ((tb_fw (gc_g w) v)[r]?).getD 0
        rw [tb_fw_succ, List.getElem?_append_left (by rw [hr0]; exact hr2)]
      have hgetl : (tb_fw (gc_g w) (v + 1)).getD r0 0 = v := by
        show ((tb_fw (gc_g w) (v + 1))[r0]?).getD 0 = v
        rw [tb_fw_succ, hf, List.getElem?_append_right (by rw [hr0]; exact Nat.le_refl _), hr0]
        simp
      rcases Nat.lt_or_ge r r0 with h1 | h1
      · rw [wo_l_nk (by omega), hget r h1]
        exact hcells r (by rw [hr0]; exact h1) c hc1
      · have e : r = r0 := by omega
        subst e
        rw [hgetl]
        rcases Nat.lt_or_ge c (gd_m (gc_g w)) with h2 | h2
        · rw [wo_l_nk (by omega)]
          exact hrow c h2
        · have e2 : c = gd_m (gc_g w) := by omega
          subst e2
          rw [wo_l_eq]
          simp [tb_v, gd_rhs, hf]
  | succ d ih =>
    intro c u hc hI hrow
    have hcm : c < gd_m (gc_g w) := by omega
    have hI0 := hI
    obtain ⟨hfr, h87, h20, h21, h86, hcells⟩ := hI
    apply vc_X5_lay_72 P _ 10 rfl
    rw [h87]
    refine ⟨fun q => absurd q (nI_ge hcm (by omega)), fun _ => ?_⟩
    have hok : gc_ok u := gc_ok_eq (fun b hb => hfr.1 b (by simp; omega)) h
    have hg : gc_g u = gc_g w := gc_g_eq (fun b hb => hfr.1 b (by simp; omega))
    rw [nn_bit0 (by omega) (by omega), nI_add, nI_clamp (by omega), nn_ad1]
    have next : ∀ z : Int64, z = nn_l (tb_v (gc_g w) A c v) → jj_J K mX5_lay (jj_Rv P) 72 [(0, .ref 8), (1, .ref 1), (2, .int (nI A)), (3, .ref 10), (4, .int (nI v)), (5, .int (nI (r0 * 11))), (6, .int (nI (c + 1)))] [] (wo_l u 10 (r0 * 11 + c) z) := by
      intro z hz
      refine ih (c + 1) _ (by omega) ⟨wo_fr_l hfr (by simp) _ _, h87, h20, ?_, h86, ?_⟩ ?_
      · rw [wo_l_nk (by omega)]; exact h21
      · intro r hr1 c1 hc1
        rw [hr0] at hr1
        rw [wo_l_nk (by omega)]
        exact hcells r (by rw [hr0]; exact hr1) c1 hc1
      · intro c' hc'
        rcases Nat.lt_or_ge c' c with h1 | h1
        · rw [wo_l_nk (by omega)]; exact hrow c' h1
        · have e : c' = c := by omega
          subst e
          rw [wo_l_eq]; exact hz
    refine ⟨fun hb => ?_, fun hb => ?_⟩
    · refine c_brought hok c v (by rw [hg]; exact hcm) (by omega) ⟨nn_inn (by omega) (by decide), ?_⟩
      rw [hg, nn_i_l (gd_br_I h.1 hcm v)]
      refine next _ ?_
      have hb2 : A.testBit c = true := by
        cases hq : A.testBit c with
        | true => rfl
        | false => exact absurd hq hb
      simp [tb_v, Nat.ne_of_lt hcm, hb2, gd_col, hf]
    · refine ⟨nn_inn (by omega) (by decide), next _ ?_⟩
      simp [tb_v, Nat.ne_of_lt hcm, hb, nn_l_0]
theorem tl_out {P : wo_T → Prop} (h : gc_ok w) (A : Nat) (hA : A < 1024) (k : ∀ u, tl_I (gc_g w) A w (2 * (gc_g w).1) u → P u) :
    ∀ d v u, v + d = 2 * (gc_g w).1 → tl_I (gc_g w) A w v u → jj_J K mX5_lay (jj_Rv P) 37 [(0, .ref 8), (1, .ref 1), (2, .int (nI A)), (3, .ref 10), (4, .int (nI v))] [] u := by
  have hn := gc_n h
  have hm := gc_m h
  intro d
  induction d with
  | zero =>
    intro v u hv hI
    have ev : v = 2 * (gc_g w).1 := by omega
    subst ev
    apply vc_X5_lay_37 P _ 10 rfl
    rw [hI.1.1 1 (by simp), h.2.1, nn_two]
    exact ⟨fun _ => k u hI, fun q => absurd (nI_le (Nat.le_refl _) (by omega)) q⟩
  | succ d ih =>
    intro v u hv hI
    have hv2 : v < 2 * (gc_g w).1 := by omega
    apply vc_X5_lay_37 P _ 10 rfl
    rw [hI.1.1 1 (by simp), h.2.1, nn_two]
    refine ⟨fun q => absurd q (nI_ge hv2 (by omega)), fun _ => ?_⟩
    have hok : gc_ok u := gc_ok_eq (fun b hb => hI.1.1 b (by simp; omega)) h
    have hg : gc_g u = gc_g w := gc_g_eq (fun b hb => hI.1.1 b (by simp; omega))
    refine c_isFree hok v (by rw [hg]; exact hv2) ?_
    rw [hg, nn_ad1]
    cases hf : gd_free (gc_g w) v with
    | true =>
      refine ⟨fun _ x hx => ?_, fun q => absurd q (by decide)⟩
      have hl := tb_fw_len (gc_g w) v
      rw [hx, hI.2.2.2.2.1, nn_el]
      exact tl_in h A hA v hv2 hf (fun u hu => ih (v + 1) u (by omega) hu) (gd_m (gc_g w)) 0 u (by omega) hI (fun c' hc' => absurd hc' (Nat.not_lt_zero _))
    | false =>
      refine ⟨fun q => absurd rfl q, fun _ => ih (v + 1) u (by omega) ?_⟩
      have e : tb_fw (gc_g w) (v + 1) = tb_fw (gc_g w) v := by rw [tb_fw_succ, hf]; simp
      unfold tl_I
      rw [e]
      exact hI
theorem c_tlay {P : wo_T → Prop} (h : gc_ok w) (A : Nat) (hA : A < 1024) (k : ∀ u, wo_fr [8, 20] [10, 21] w u → tb_B (gc_g w) u → tb_L (gc_g w) A u [] [] → P u) : jj_Cv K mX5_lay [.ref 8, .ref 1, .int (nI A)] w P := by
  apply en_X5_lay
  refine ⟨nn_inn (i := 0) (by decide) (by decide), c_pairs h ⟨nn_inn (i := 0) (by decide) (by decide), nn_inn (i := 0) (by decide) (by decide), ?_⟩⟩
  refine tl_out h A hA (fun u hu => ?_) (2 * (gc_g w).1) 0 _ (by omega) ⟨wo_fr_l (wo_fr_i (wo_fr_i (wo_fr_i (wo_fr_rf _ _ w) (by simp) _ _) (by simp) _ _) (by simp) _ _) (by simp) _ _, ?_, ?_, ?_, ?_, ?_⟩
  · obtain ⟨hfr, h87, h20, h21, h86, hcells⟩ := hu
    have e := tb_fw_2n h.1
    rw [e] at h86 hcells
    refine k u hfr ⟨h86, h87⟩ ⟨h20, h21, fun r hr _ c _ hc => ?_⟩
    have h1 : tb_p (gc_g w) A [c] [r] = tb_v (gc_g w) A c (tb_f (gc_g w) r) := by
      show xb_p 10 [tb_f (gc_g w) r] [tb_v (gc_g w) A c] = _
      rw [xb_p1, if_pos (tb_f_free hr).2]
    rw [h1]
    exact hcells r hr c hc
  · rw [wo_l_1, wo_i_nk (by decide), wo_i_nk (by decide), wo_i_eq]
  · rw [wo_l_1, wo_i_eq]; rfl
  · rw [wo_l_eq]; rfl
  · rw [wo_l_1, wo_i_nk (by decide), wo_i_eq]; rfl
  · intro r hr
    simp [tb_fw] at hr
end

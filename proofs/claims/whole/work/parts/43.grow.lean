/-! ===== growing and pruning ===== -/
def bc_f (a0 : Int32) : Int32 :=
  let x1 : Int32 := a0 - (((a0.toUInt32 >>> ((1 : Int32).toUInt32 &&& Int32.toUInt32 31)).toInt32) &&& 1431655765)
  let x2 : Int32 := (x1 &&& 858993459) + (((x1.toUInt32 >>> ((2 : Int32).toUInt32 &&& Int32.toUInt32 31)).toInt32) &&& 858993459)
  let x3 : Int32 := (x2 + ((x2.toUInt32 >>> ((4 : Int32).toUInt32 &&& Int32.toUInt32 31)).toInt32)) &&& 252645135
  let x4 : Int32 := x3 + ((x3.toUInt32 >>> ((8 : Int32).toUInt32 &&& Int32.toUInt32 31)).toInt32)
  let x5 : Int32 := x4 + ((x4.toUInt32 >>> ((16 : Int32).toUInt32 &&& Int32.toUInt32 31)).toInt32)
  x5 &&& 63
set_option maxRecDepth 100000 in
theorem bc_all : ∀ a, a < 1024 → bc_f (nI a) = nI (gd_pop a 10) := by decide +kernel
theorem c_bits {K : jj_K} {w : wo_T} {P : Int32 → wo_T → Prop} {a : Nat} (ha : a < 1024) (k : P (nI (gd_pop a 10)) w) : jj_Ci K mJ6_bitCount_0f7a4 [.int (nI a)] w P := by
  apply en_J6_bitCount_0f7a4
  intro x1 e1 x2 e2 x3 e3 x4 e4 x5 e5
  have h := bc_all a ha
  have e : bc_f (nI a) = x5 &&& 63 := by rw [e5, e4, e3, e2, e1]; rfl
  rw [← e, h]
  exact k
theorem gd_lt_tr {g : gd_T} {S T X : Nat} (hS : gd_brs g S) (hT : gd_brs g T) (hX : gd_brs g X) (h1 : gd_lt g S T) (h2 : gd_lt g T X) : gd_lt g S X := by
  obtain ⟨a, b, v1⟩ := gd_vol_ex hS
  obtain ⟨a', b', v2⟩ := gd_vol_ex hT
  obtain ⟨a2, b2, v3⟩ := gd_vol_ex hX
  rw [gd_lt_iff hS.1 hT.1 v1 v2] at h1
  rw [gd_lt_iff hT.1 hX.1 v2 v3] at h2
  rw [gd_lt_iff hS.1 hX.1 v1 v3]
  exact xs_tr1 v1.1 v2.1 v3.1 h1 (by omega)
theorem bwi_self {B k : Nat} (h : B.testBit k = true) : bwi B k = B := by
  apply Nat.eq_of_testBit_eq
  intro j
  rw [bwi_tb]
  by_cases e : j = k
  · subst e; simp [h]
  · simp [e]
noncomputable def gs1 (g : gd_T) (B k : Nat) (s : Option Nat × Nat) : Option Nat × Nat := match sb g (bwi B k) with
  | none => s
  | some T => @ite _ (gd_lt g T s.2) (Classical.propDecidable _) (some k, T) s
noncomputable def gs (g : gd_T) (B S0 : Nat) : Nat → Option Nat × Nat
  | 0 => (none, S0)
  | k + 1 => gs1 g B k (gs g B S0 k)
noncomputable def gmost (g : gd_T) (B : Nat) : Option Nat := match sb g B with
  | none => none
  | some S => (gs g B S (gd_m g)).1
theorem gs_inv {g : gd_T} {B S0 : Nat} (h : sb g B = some S0) : ∀ k, gd_brs g (gs g B S0 k).2 ∧ (gs g B S0 k).2 < 2 ^ gd_m g ∧ ¬ gd_lt g S0 (gs g B S0 k).2 ∧ ∀ c, (gs g B S0 k).1 = some c → c < k ∧ B.testBit c = false
  | 0 => by
    have hb := sb_brs h
    exact ⟨hb.1, hb.2.1, gd_lt_ir hb.1.1, fun c hc => by cases hc⟩
  | k + 1 => by
    obtain ⟨i1, i2, i3, i4⟩ := gs_inv h k
    have hb := sb_brs h
    show gd_brs g (gs1 g B k (gs g B S0 k)).2 ∧ (gs1 g B k (gs g B S0 k)).2 < 2 ^ gd_m g ∧ ¬ gd_lt g S0 (gs1 g B k (gs g B S0 k)).2 ∧ ∀ c, (gs1 g B k (gs g B S0 k)).1 = some c → c < k + 1 ∧ B.testBit c = false
    have keep : gd_brs g (gs g B S0 k).2 ∧ (gs g B S0 k).2 < 2 ^ gd_m g ∧ ¬ gd_lt g S0 (gs g B S0 k).2 ∧ ∀ c, (gs g B S0 k).1 = some c → c < k + 1 ∧ B.testBit c = false := ⟨i1, i2, i3, fun c hc => ⟨by have := (i4 c hc).1; omega, (i4 c hc).2⟩⟩
    unfold gs1
    cases hs : sb g (bwi B k) with
    | none => exact keep
    | some T =>
      simp only []
      rcases Classical.em (gd_lt g T (gs g B S0 k).2) with hl | hl
      · rw [if_pos hl]
        have hT := sb_brs hs
        refine ⟨hT.1, hT.2.1, fun q => i3 (gd_lt_tr hb.1 hT.1 i1 q hl), fun c hc => ?_⟩
        cases hc
        refine ⟨by omega, ?_⟩
        cases hq : B.testBit k with
        | false => rfl
        | true =>
          rw [bwi_self hq, h] at hs
          cases hs
          exact absurd hl i3
      · rw [if_neg hl]
        exact keep
theorem gs_bar {g : gd_T} {B S0 k : Nat} (h : sb g B = some S0) (hk : B.testBit k = true) : gs g B S0 (k + 1) = gs g B S0 k := by
  show gs1 g B k (gs g B S0 k) = _
  unfold gs1
  rw [bwi_self hk, h]
  simp only []
  rw [if_neg (gs_inv h k).2.2.1]
theorem gs_T {g : gd_T} {B S0 k T : Nat} (h : sb g (bwi B k) = some T) : gs g B S0 (k + 1) = @ite _ (gd_lt g T (gs g B S0 k).2) (Classical.propDecidable _) (some k, T) (gs g B S0 k) := by
  show gs1 g B k (gs g B S0 k) = _
  unfold gs1
  rw [h]
theorem gmost_in {g : gd_T} {B k : Nat} (h : gmost g B = some k) : k < gd_m g ∧ B.testBit k = false := by
  unfold gmost at h
  cases hs : sb g B with
  | none => rw [hs] at h; cases h
  | some S =>
    rw [hs] at h
    exact (gs_inv hs (gd_m g)).2.2.2 k h
noncomputable def gr (g : gd_T) : Nat → Nat → Nat × Nat
  | 0, B => (0, B)
  | f + 1, B => match gmost g B with
    | none => (0, B)
    | some k => ((gr g f (bwi B k)).1 + 1, (gr g f (bwi B k)).2)
theorem sb_up {g : gd_T} {B S k : Nat} (h : sb g B = some S) : ∃ T, sb g (bwi B k) = some T := by
  cases hs : sb g (bwi B k) with
  | some T => exact ⟨T, rfl⟩
  | none =>
    have := sb_mono (bwi_sub B k) hs
    rw [this] at h; cases h
theorem pop_bwi {B k : Nat} (h : B.testBit k = false) : ∀ n, gd_pop (bwi B k) n = gd_pop B n + (if k < n then 1 else 0)
  | 0 => by simp [gd_pop]
  | n + 1 => by
    simp only [gd_pop]
    rw [pop_bwi h n, bwi_tb]
    by_cases e : n = k
    · subst e
      simp [h]
    · have e3 : (k < n + 1) ↔ k < n := by omega
      simp only [e, decide_false, Bool.or_false, e3]
      omega
/-- what growing and pruning may change: questions and the bars -/
def cqB (w u : wo_T) (B : Nat) : Prop := wo_fr cq_i cq_l w u ∧ (∀ j, j ≠ 8 → j ≠ 6 → u.1 0 j = w.1 0 j) ∧ u.1 0 6 = nI B
def mqB (w u : wo_T) (B : Nat) : Prop := wo_fr [58, 65, 66] [64, 67, 68] w u ∧ (∀ j, j ≠ 9 → j ≠ 13 → j ≠ 14 → j ≠ 15 → j ≠ 16 → j ≠ 6 → u.1 58 j = w.1 58 j) ∧ u.1 58 6 = nI B
theorem cb_of {u : wo_T} {B : Nat} (hB : B < 1024) (h : u.1 0 6 = nI B) : cb u = B := by
  unfold cb
  rw [h, nn_nI_int (by omega)]; simp
theorem mb_of {u : wo_T} {B : Nat} (hB : B < 1024) (h : u.1 58 6 = nI B) : mb u = B := by
  unfold mb
  rw [h, nn_nI_int (by omega)]; simp
theorem cqB_g {w u : wo_T} {B : Nat} (h : cqB w u B) : gc_g u = gc_g w := by
  unfold gc_g
  rw [h.1.1 1 (by decide), h.1.1 2 (by decide), h.1.1 3 (by decide), h.1.1 4 (by decide)]
theorem cqB_ok {w u : wo_T} {B : Nat} (h : cqB w u B) (hw : gc_ok w) : gc_ok u := by
  unfold gc_ok
  rw [cqB_g h, h.1.1 1 (by decide), h.1.1 3 (by decide), h.1.1 6 (by decide), h.1.1 7 (by decide)]
  exact hw
theorem mqB_s {w u : wo_T} {B : Nat} (h : mqB w u B) : gm_s w u := ⟨h.2.1 5 (by decide) (by decide) (by decide) (by decide) (by decide) (by decide), h.1.1 59 (by simp), h.1.1 60 (by simp), h.1.1 61 (by simp), h.1.1 62 (by simp)⟩
/-- the bars are set -/
theorem ci_set {u : wo_T} {L : List Nat} {B : Nat} (hok : gc_ok u) (hB : B < 2 ^ gd_m (gc_g u)) (hs : cs_ok (gc_g u) L u) : ci (wo_i u 0 6 (nI B)) := by
  have hg : gc_g (wo_i u 0 6 (nI B)) = gc_g u := by
    unfold gc_g
    rw [wo_i_ne 1 (by decide), wo_i_ne 2 (by decide), wo_i_ne 3 (by decide), wo_i_ne 4 (by decide)]
  have hok2 : gc_ok (wo_i u 0 6 (nI B)) := by
    unfold gc_ok
    rw [hg, wo_i_ne 1 (by decide), wo_i_ne 3 (by decide), wo_i_ne 6 (by decide), wo_i_ne 7 (by decide)]
    exact hok
  obtain ⟨e1, e2⟩ := ev_lt (gc_m hok)
  have hcb : cb (wo_i u 0 6 (nI B)) = B := cb_of (by omega) wo_i_eq
  unfold ci
  rw [hg, hcb, wo_i_eq]
  refine ⟨hok2, ⟨rfl, hB⟩, fun _ => ⟨L, ?_⟩⟩
  obtain ⟨s1, s2, s3, s4⟩ := hs
  refine ⟨bk_L_fr (w := u) (by rw [wo_i_ne 23 (by decide)]) (wo_i_ne 24 (by decide)) rfl rfl s1, s2, ?_, fun T hT e => ?_⟩
  · unfold bn_c
    rw [wo_i_ne 23 (by decide)]
    exact s3
  · rw [wo_i_ne 23 (by decide)] at e
    exact s4 T hT e
theorem mi_set {u : wo_T} {B : Nat} (h : mi u) (hB : B < 2 ^ gd_m (gm_g u)) : mi (wo_i u 58 6 (nI B)) := by
  have hs : gm_s u (wo_i u 58 6 (nI B)) := ⟨wo_i_nk (by decide), wo_i_ne _ (by decide), wo_i_ne _ (by decide), wo_i_ne _ (by decide), wo_i_ne _ (by decide)⟩
  obtain ⟨e1, e2⟩ := ev_lt (gm_m h.1)
  have hmb : mb (wo_i u 58 6 (nI B)) = B := mb_of (by omega) wo_i_eq
  unfold mi
  rw [gm_g_eq hs, hmb, wo_i_eq]
  refine ⟨gm_ok_eq hs h.1, ⟨rfl, hB⟩, ?_⟩
  unfold mt_k
  rw [wo_i_nk (by decide)]
  rcases h.2.2 with q | ⟨q, hT⟩
  · exact Or.inl q
  · exact Or.inr ⟨q, fun S hS => mt_e_eq (w := u) (by rw [wo_i_ne 66 (by decide)]) rfl rfl (hT S hS)⟩
section
variable {K : jj_K} {w : wo_T}
theorem c_mostSaving {P : Int32 → wo_T → Prop} (h : ci w) (h8 : w.1 0 8 = 0) {S0 : Nat} (hs0 : sb (gc_g w) (cb w) = some S0) (k : ∀ u L, cf w L u → P (eb (gmost (gc_g w) (cb w))) u) : jj_Ci K mX6_mostSaving [.ref 0] w P := by
  have hm := gc_m h.1
  obtain ⟨e1, e2⟩ := ev_lt hm
  have hb := h.2.1.2
  obtain ⟨L, hL⟩ := h.2.2 h8
  unfold gmost at k
  rw [hs0] at k
  replace k : ∀ u L, cf w L u → P (eb (gs (gc_g w) (cb w) S0 (gd_m (gc_g w))).1) u := k
  apply en_X6_mostSaving
  rw [h.2.1.1]
  refine c_lw h.1.1 rfl ⟨cq_rf w, h8, hL⟩ hb (fun u v hf hv => ?_)
  rcases hv with ⟨e, hn⟩ | ⟨i0, S, e, hi0, hs⟩
  · rw [hs0] at hn; cases hn
  · rw [hs0] at hs
    cases hs
    subst e
    have loop : ∀ d j u i, j + d = gd_m (gc_g w) → cf w L u → L[i]? = some (gs (gc_g w) (cb w) S0 j).2 → jj_J K mX6_mostSaving (jj_Ri P) 16 [(0, .ref 0), (1, .int (eb (gs (gc_g w) (cb w) S0 j).1)), (2, .int (nI i)), (3, .int (nI j))] [] u := by
      intro d
      induction d with
      | zero =>
        intro j u i hj hf hi
        have e : j = gd_m (gc_g w) := by omega
        subst e
        apply vc_X6_mostSaving_16
        refine c_pairs (cq_ok hf.1 h.1) ?_
        rw [cq_g hf.1]
        exact ⟨fun _ => k u L hf, fun q => absurd (nI_le (by omega) (by omega)) q⟩
      | succ d ih =>
        intro j u i hj hf hi
        apply vc_X6_mostSaving_16
        refine c_pairs (cq_ok hf.1 h.1) ?_
        rw [cq_g hf.1, hf.1.2 6 (by decide), h.2.1.1, bwi_nn (by omega), nn_ad1]
        refine ⟨fun q => absurd q (nI_ge (by omega) (by omega)), fun _ => c_lw h.1.1 rfl hf (bwi_lt hb (by omega)) (fun u2 v2 hf2 hv2 => ?_)⟩
        obtain ⟨T, hT⟩ := sb_up (k := j) hs0
        rcases hv2 with ⟨e, hn⟩ | ⟨i', T', e, hi', hs'⟩
        · rw [hT] at hn; cases hn
        · rw [hT] at hs'
          cases hs'
          subst e
          have hstep := gs_T (S0 := S0) hT
          refine c_isDearer (Or.inl rfl) h.1.1 hf2.2.2.1 hi hi' (fun hl => ⟨fun q => absurd q (by decide), fun _ => ?_⟩) (fun hl => ⟨fun _ => ?_, fun q => absurd rfl q⟩)
          · rw [if_pos hl] at hstep
            have := ih (j + 1) u2 i' (by omega) hf2 (by rw [hstep]; exact hi')
            rw [hstep] at this
            exact this
          · rw [if_neg hl] at hstep
            have := ih (j + 1) u2 i (by omega) hf2 (by rw [hstep]; exact hi)
            rw [hstep] at this
            exact this
    exact loop (gd_m (gc_g w)) 0 u i0 (by omega) hf hi0
theorem m_growing {P : Int32 → wo_T → Prop} (h : mi w) {S0 : Nat} (hs0 : sb (gm_g w) (mb w) = some S0) (k : ∀ u, mq w u → mi u → P (eb (gmost (gm_g w) (mb w))) u) : jj_Ci K mX7_growing [.ref 58] w P := by
  have hm := gm_m h.1
  obtain ⟨e1, e2⟩ := ev_lt hm
  have hb := h.2.1.2
  unfold gmost at k
  rw [hs0] at k
  replace k : ∀ u, mq w u → mi u → P (eb (gs (gm_g w) (mb w) S0 (gd_m (gm_g w))).1) u := k
  apply en_X7_growing
  rw [h.2.1.1]
  refine m_best h hb (fun u hq hu hT => ?_)
  rw [hs0]
  have loop : ∀ d j u, j + d = gd_m (gm_g w) → mq w u → mi u → mt_T (gm_g w) u (2 ^ gd_m (gm_g w)) → jj_J K mX7_growing (jj_Ri P) 13 [(0, .ref 58), (1, .int (nI (gs (gm_g w) (mb w) S0 j).2)), (2, .int (eb (gs (gm_g w) (mb w) S0 j).1)), (3, .int (nI j))] [] u := by
    intro d
    induction d with
    | zero =>
      intro j u hj hq hu hT
      have e : j = gd_m (gm_g w) := by omega
      subst e
      apply vc_X7_growing_13
      refine m_pairs hu.1 ?_
      rw [mq_g hq]
      exact ⟨fun _ => k u hq hu, fun q => absurd (nI_le (by omega) (by omega)) q⟩
    | succ d ih =>
      intro j u hj hq hu hT
      have hg := mq_g hq
      have hbu := mq_b hq
      obtain ⟨i1, i2, i3, i4⟩ := gs_inv hs0 j
      apply vc_X7_growing_13
      refine m_pairs hu.1 ?_
      rw [hg]
      simp only [nn_ad1]
      refine ⟨fun q => absurd q (nI_ge (by omega) (by omega)), fun _ => m_isBar hu (nI j) (fun j' hj' e' hbit => ⟨fun q => absurd q (by decide), fun _ => ?_⟩) (fun hno => ⟨fun _ => ?_, fun q => absurd rfl q⟩)⟩
      · rw [hg] at hj'
        rw [hbu, ← (nI_eq (by omega) (by omega)).mp e'] at hbit
        have hstep := gs_bar hs0 hbit
        have nx := ih (j + 1) u (by omega) hq hu hT
        rw [hstep] at nx
        refine m_isLess hm hT i2 i2 i1 i1 (fun hl => absurd hl (gd_lt_ir i1.1)) (fun _ => ⟨fun _ => m_isLess hm hT i2 i2 i1 i1 (fun hl => absurd hl (gd_lt_ir i1.1)) (fun _ => ⟨fun _ => nx, fun q => absurd rfl q⟩), fun q => absurd rfl q⟩)
      · rw [hu.2.1.1, hbu, bwi_nn (by omega)]
        refine m_best hu (by rw [hg]; exact bwi_lt hb (by omega)) (fun u2 hq2 hu2 hT2 => ?_)
        rw [hg] at hT2
        rw [hg]
        obtain ⟨T, hTs⟩ := sb_up (k := j) hs0
        rw [hTs]
        have hTb := sb_brs hTs
        have hstep := gs_T (S0 := S0) hTs
        have nx := ih (j + 1) u2 (by omega) (mq_tr hq hq2) hu2 hT2
        refine m_isLess hm hT2 hTb.2.1 i2 hTb.1 i1 (fun hl => ⟨fun q => absurd q (by decide), fun _ => m_isLess hm hT2 hTb.2.1 i2 hTb.1 i1 (fun _ => ⟨fun q => absurd q (by decide), fun _ => ?_⟩) (fun q => absurd hl q)⟩) (fun hl => ⟨fun _ => m_isLess hm hT2 hTb.2.1 i2 hTb.1 i1 (fun q => absurd q hl) (fun _ => ⟨fun _ => ?_, fun q => absurd rfl q⟩), fun q => absurd rfl q⟩)
        · rw [hstep, if_pos hl] at nx
          exact nx
        · rw [hstep, if_neg hl] at nx
          exact nx
  exact loop (gd_m (gm_g w)) 0 u (by omega) hq hu hT
end

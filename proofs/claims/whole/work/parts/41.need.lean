/-! ===== bars that are needed, and the dearest of them ===== -/
theorem sb_keep {g : gd_T} {B S k : Nat} (hB : B < 4294967296) (h : sb g B = some S) (hk : S.testBit k = false) : sb g (bwo B k) = some S := by
  obtain ⟨h1, h2, h3, h4⟩ := sb_get h
  refine sb_some ⟨fun j hj => ?_, h2, h3, fun T a b c => h4 T a (gd_sub_trans b (bwo_sub hB)) c⟩
  rw [bwo_tb hB, h1 j hj]
  have : j ≠ k := fun e => by rw [e, hk] at hj; cases hj
  simp [this]
theorem gd_lt_ir {g : gd_T} {S : Nat} (hS : gd_ind g S) : ¬ gd_lt g S S := fun h => by
  obtain ⟨a, b, a', b', h1, h2, h3⟩ := h
  have := gd_vol_same hS h1 h2
  omega
noncomputable def nd_b (g : gd_T) (B S k : Nat) : Bool := @decide (B.testBit k = true ∧ match sb g (bwo B k) with | none => True | some T => gd_lt g S T) (Classical.propDecidable _)
theorem nd_t {g : gd_T} {B S k : Nat} : nd_b g B S k = true ↔ (B.testBit k = true ∧ match sb g (bwo B k) with | none => True | some T => gd_lt g S T) := by
  unfold nd_b
  exact @decide_eq_true_iff _ (Classical.propDecidable _)
theorem nd_f {g : gd_T} {B S k : Nat} (h : ¬ (B.testBit k = true ∧ match sb g (bwo B k) with | none => True | some T => gd_lt g S T)) : nd_b g B S k = false := by
  cases hq : nd_b g B S k with
  | false => rfl
  | true => exact absurd (nd_t.mp hq) h
noncomputable def nd (g : gd_T) (B : Nat) : Int32 := match sb g B with
  | none => -3
  | some S => nI (gd_bits (nd_b g B S) 10)
theorem gd_bits_s (f : Nat → Bool) (n : Nat) : gd_bits f (n + 1) = if f n then gd_bits f n ||| 2 ^ n else gd_bits f n := by
  apply Nat.eq_of_testBit_eq
  intro k
  rw [gd_bits_tb]
  cases hf : f n with
  | true =>
    rw [if_pos rfl, Nat.testBit_or, gd_bits_tb, Nat.testBit_two_pow]
    by_cases e : k = n
    · subst e; simp [hf]
    · have e2 : ¬ n = k := fun q => e q.symm
      have e3 : (k < n + 1) ↔ k < n := by omega
      simp [e2, e3]
  | false =>
    simp only [Bool.false_eq_true, if_false]
    rw [gd_bits_tb]
    by_cases e : k = n
    · subst e; simp [hf]
    · have e3 : (k < n + 1) ↔ k < n := by omega
      simp [e3]
theorem gd_bits_stop {f : Nat → Bool} {m : Nat} (h : ∀ k, m ≤ k → f k = false) : ∀ d, gd_bits f (m + d) = gd_bits f m
  | 0 => rfl
  | d + 1 => by
    rw [← Nat.add_assoc, gd_bits_s, h (m + d) (by omega)]
    exact gd_bits_stop h d
theorem nd_stop {g : gd_T} {B S : Nat} (hm : gd_m g ≤ 10) (hB : B < 2 ^ gd_m g) : gd_bits (nd_b g B S) 10 = gd_bits (nd_b g B S) (gd_m g) := by
  have := gd_bits_stop (f := nd_b g B S) (m := gd_m g) (fun k hk => nd_f (fun q => by rw [gd_big hB hk] at q; cases q.1)) (10 - gd_m g)
  have e : gd_m g + (10 - gd_m g) = 10 := by omega
  rw [e] at this
  exact this
theorem nn_andbit {S k : Nat} (hS : S < 1024) (hk : k < 31) : nI S &&& nI (2 ^ k) = 0 ↔ S.testBit k = false := by
  rw [nn_and]
  have hle : S &&& 2 ^ k ≤ S := Nat.and_le_left
  have h0 : nI (S &&& 2 ^ k) = 0 ↔ S &&& 2 ^ k = 0 := nI_eq (b := 0) (by omega) (by omega)
  rw [h0]
  constructor
  · intro h
    have := congrArg (fun x => x.testBit k) h
    simp only [Nat.testBit_and, Nat.testBit_two_pow_self, Nat.zero_testBit, Bool.and_true] at this
    exact this
  · intro h
    apply Nat.eq_of_testBit_eq
    intro j
    rw [Nat.testBit_and, Nat.testBit_two_pow, Nat.zero_testBit]
    by_cases e : k = j
    · subst e; simp [h]
    · simp [e]
section
variable {K : jj_K} {w : wo_T}
/-- whether one answer of leastWithin is dearer than a set -/
theorem c_dear {P : Int32 → wo_T → Prop} {g : gd_T} (hok : gd_ok g) {L : List Nat} (hbk : bk_L g (ev g) w 23 L) {B : Nat} {v : Int32} (hv : ci_v g L B v) {i S : Nat} (hi : L[i]? = some S)
    (k1 : (match sb g B with | none => True | some T => gd_lt g S T) → P 1 w) (k0 : ¬ (match sb g B with | none => True | some T => gd_lt g S T) → P 0 w) : jj_Ci K mX0_isDearer [.ref 23, .int v, .int (nI i)] w P := by
  rcases hv with ⟨e, hn⟩ | ⟨i', T, e, hi', hs⟩
  · rw [hn] at k1
    subst e
    exact c_isDearerN (Or.inl rfl) (by have := (ci_ix hok hbk hi).1; omega) (k1 trivial)
  · rw [hs] at k1 k0
    subst e
    exact c_isDearer (Or.inl rfl) hok hbk hi' hi k1 k0
theorem c_needed {P : Int32 → wo_T → Prop} (h : ci w) (k : ∀ u L, cf w L u → P (nd (gc_g w) (cb w)) u) : jj_Ci K mX6_needed [.ref 0] w P := by
  have hm := gc_m h.1
  obtain ⟨e1, e2⟩ := ev_lt hm
  have hb := h.2.1.2
  apply en_X6_needed
  refine c_bestNow h (fun u v L hf hv => ?_)
  rcases hv with ⟨e, hn⟩ | ⟨i, S, e, hi, hs⟩
  · have := k u L hf
    unfold nd at this
    rw [hn] at this
    subst e
    exact ⟨fun q => absurd q nn_neg1, fun _ => this⟩
  · subst e
    obtain ⟨i1, i2⟩ := ci_ix h.1.1 hf.2.2.1 hi
    obtain ⟨hbr, hSm, hSB⟩ := sb_brs hs
    rw [nI_clamp (by omega), i2]
    refine ⟨fun _ => ⟨nn_inn i1 (by decide), fun x4 e4 => ?_⟩, fun q => absurd (nI_pos' (by omega)) q⟩
    subst e4
    have loop : ∀ d j u, j + d = 10 → cf w L u → jj_J K mX6_needed (jj_Ri P) 27 [(0, .ref 0), (1, .int (nI i)), (2, .int (nI S)), (3, .int (nI (gd_bits (nd_b (gc_g w) (cb w) S) j))), (4, .int (nI j))] [] u := by
      intro d
      induction d with
      | zero =>
        intro j u hj hf
        have e : j = 10 := by omega
        subst e
        apply vc_X6_needed_27
        have := k u L hf
        unfold nd at this
        rw [hs] at this
        exact ⟨fun _ => this, fun q => absurd (by decide) q⟩
      | succ d ih =>
        intro j u hj hf
        apply vc_X6_needed_27
        refine ⟨fun q => absurd q (nI_ge (b := 10) (by omega) (by decide)), fun _ x2 ex2 => ?_⟩
        rw [nn_one (by omega)] at ex2
        subst ex2
        rw [nn_andbit (by omega) (by omega), nn_ad1]
        have hstep := gd_bits_s (nd_b (gc_g w) (cb w) S) j
        refine ⟨fun h0 => ?_, fun h1 => ?_⟩
        · have : nd_b (gc_g w) (cb w) S j = false := nd_f (fun q => by
            rw [sb_keep (by omega) hs h0] at q
            exact gd_lt_ir hbr.1 q.2)
          rw [this] at hstep
          simp only [Bool.false_eq_true, if_false] at hstep
          have := ih (j + 1) u (by omega) hf
          rw [hstep] at this
          exact this
        · have hSj : S.testBit j = true := by
            cases hq : S.testBit j with
            | true => rfl
            | false => exact absurd hq h1
          have hBj := hSB j hSj
          rw [hf.1.2 6 (by decide), h.2.1.1]
          have eo : nI (cb w) &&& (nI (2 ^ j) ^^^ -1) = nI (bwo (cb w) j) := nn_diff
          rw [eo]
          refine c_lw h.1.1 rfl hf (Nat.lt_of_le_of_lt (bwo_le _ _) hb) (fun u2 v2 hf2 hv2 => c_dear h.1.1 hf2.2.2.1 hv2 hi (fun hy => ⟨fun q => absurd q (by decide), fun _ x9 e9 => ?_⟩) (fun hn => ⟨fun _ => ?_, fun q => absurd rfl q⟩))
          · rw [nd_t.mpr ⟨hBj, hy⟩] at hstep
            simp only [if_true] at hstep
            rw [nn_or, ← hstep] at e9
            subst e9
            exact ih (j + 1) u2 (by omega) hf2
          · rw [nd_f (fun q => hn q.2)] at hstep
            simp only [Bool.false_eq_true, if_false] at hstep
            have := ih (j + 1) u2 (by omega) hf2
            rw [hstep] at this
            exact this
    exact loop 10 0 u rfl hf
/-- the model's side -/
theorem m_less {P : Int32 → wo_T → Prop} {g : gd_T} (hm : gd_m g ≤ 10) (hT : mt_T g w (2 ^ gd_m g)) {S T : Nat} (hS : S < 2 ^ gd_m g) (hT2 : T < 2 ^ gd_m g) (bS : gd_brs g S) (bT : gd_brs g T) (k1 : gd_lt g S T → P 1 w) (k0 : ¬ gd_lt g S T → P 0 w) : jj_Ci K mX7_isLess [.ref 58, .int (nI S), .int (nI T)] w P := m_isLess hm hT hS hT2 bS bT k1 k0
theorem m_isNeeded {P : Int32 → wo_T → Prop} (h : mi w) {j S : Nat} (hj : j < 10) (hS : S < 2 ^ gd_m (gm_g w)) (bS : gd_brs (gm_g w) S)
    (k1 : ∀ u, mq w u → mi u → (match sb (gm_g w) (bwo (mb w) j) with | none => True | some T => gd_lt (gm_g w) S T) → P 1 u) (k0 : ∀ u, mq w u → mi u → ¬ (match sb (gm_g w) (bwo (mb w) j) with | none => True | some T => gd_lt (gm_g w) S T) → P 0 u) : jj_Ci K mX7_isNeeded [.ref 58, .int (nI j), .int (nI S)] w P := by
  have hm := gm_m h.1
  obtain ⟨e1, e2⟩ := ev_lt hm
  apply en_X7_isNeeded
  rw [h.2.1.1, bwo_nn (by omega)]
  refine m_best h (Nat.lt_of_le_of_lt (bwo_le _ _) h.2.1.2) (fun u hq hu hT => ?_)
  have kk1 := k1 u hq hu
  have kk0 := k0 u hq hu
  cases hs : sb (gm_g w) (bwo (mb w) j) with
  | none =>
    rw [hs] at kk1
    exact ⟨fun _ => kk1 trivial, fun q => absurd rfl q⟩
  | some T =>
    rw [hs] at kk1 kk0
    have hT' := sb_brs hs
    exact ⟨fun q => absurd q (eb_ne (by omega)), fun _ => m_isLess hm hT hS hT'.2.1 bS hT'.1 (fun hl => ⟨fun q => absurd q (by decide), fun _ => kk1 hl⟩) (fun hl => ⟨fun _ => kk0 hl, fun q => absurd rfl q⟩)⟩
theorem m_neededNow {P : Int32 → wo_T → Prop} (h : mi w) (k : ∀ u, mq w u → mi u → P (nd (gm_g w) (mb w)) u) : jj_Ci K mX7_neededNow [.ref 58] w P := by
  have hm := gm_m h.1
  obtain ⟨e1, e2⟩ := ev_lt hm
  apply en_X7_neededNow
  rw [h.2.1.1]
  refine m_best h h.2.1.2 (fun u hq hu hT => ?_)
  cases hs : sb (gm_g w) (mb w) with
  | none =>
    apply vc_X7_neededNow_13
    refine m_pairs hu.1 ?_
    have kk := k u hq hu
    unfold nd at kk
    rw [hs] at kk
    exact ⟨fun _ => ⟨fun q => absurd rfl q, fun _ => kk⟩, fun _ => ⟨fun _ => ⟨fun q => absurd rfl q, fun _ => kk⟩, fun q => absurd rfl q⟩⟩
  | some S =>
    obtain ⟨hbr, hSm, hSB⟩ := sb_brs hs
    have hne := eb_ne (S := S) (by omega)
    have loop : ∀ d j u, j + d = gd_m (gm_g w) → mq w u → mi u → jj_J K mX7_neededNow (jj_Ri P) 13 [(0, .ref 58), (1, .int (nI S)), (2, .int (nI (gd_bits (nd_b (gm_g w) (mb w) S) j))), (3, .int (nI j))] [] u := by
      intro d
      induction d with
      | zero =>
        intro j u hj hq hu
        have e : j = gd_m (gm_g w) := by omega
        have hg := mq_g hq
        apply vc_X7_neededNow_13
        refine m_pairs hu.1 ?_
        rw [hg]
        have kk := k u hq hu
        unfold nd at kk
        rw [hs, ] at kk
        have kk2 : P (nI (gd_bits (nd_b (gm_g w) (mb w) S) 10)) u := kk
        rw [nd_stop hm h.2.1.2, ← e] at kk2
        exact ⟨fun _ => ⟨fun _ => kk2, fun q => absurd q hne⟩, fun q => absurd (nI_le (by omega) (by omega)) q⟩
      | succ d ih =>
        intro j u hj hq hu
        have hjm : j < gd_m (gm_g w) := by omega
        have hg := mq_g hq
        have hbu := mq_b hq
        apply vc_X7_neededNow_13
        refine m_pairs hu.1 ?_
        rw [hg]
        have hstep := gd_bits_s (nd_b (gm_g w) (mb w) S) j
        have z : ∀ x : Int32, x ||| 0 = x := fun x => Int32.or_zero
        simp only [z, nn_ad1]
        refine ⟨fun q => absurd q (nI_ge hjm (by omega)), fun _ => ⟨fun q => absurd q hne, fun _ => m_isBar hu (nI j) (fun j' hj' e' hbit => ⟨fun q => absurd q (by decide), fun _ => ?_⟩) (fun hno => ⟨fun _ x ex => ?_, fun q => absurd rfl q⟩)⟩⟩
        · rw [hg] at hj'
          rw [hbu, ← (nI_eq (by omega) (by omega)).mp e'] at hbit
          refine m_isNeeded hu (by omega) (by rw [hg]; exact hSm) (by rw [hg]; exact hbr) (fun u2 hq2 hu2 hy => ⟨fun q => absurd q (by decide), fun _ x ex => ?_⟩) (fun u2 hq2 hu2 hn => ⟨fun _ x ex => ?_, fun q => absurd rfl q⟩)
          · rw [hg, hbu] at hy
            rw [nd_t.mpr ⟨hbit, hy⟩] at hstep
            simp only [if_true] at hstep
            rw [nn_one (by omega), nn_or, ← hstep] at ex
            subst ex
            exact ih (j + 1) u2 (by omega) (mq_tr hq hq2) hu2
          · rw [hg, hbu] at hn
            rw [nd_f (fun q => hn q.2)] at hstep
            simp only [Bool.false_eq_true, if_false] at hstep
            subst ex
            have := ih (j + 1) u2 (by omega) (mq_tr hq hq2) hu2
            rw [hstep] at this
            exact this
        · have hbit := hno j (by rw [hg]; exact hjm) rfl
          rw [hbu] at hbit
          rw [nd_f (fun q => by rw [hbit] at q; cases q.1)] at hstep
          simp only [Bool.false_eq_true, if_false] at hstep
          subst ex
          have := ih (j + 1) u (by omega) hq hu
          rw [hstep] at this
          exact this
    exact loop (gd_m (gm_g w)) 0 u (by omega) hq hu
theorem m_needed {P : Int32 → wo_T → Prop} (h : mi w) (k : ∀ u, mq w u → mi u → P (nd (gm_g w) (mb w)) u) : jj_Ci K mX7_needed [.ref 58] w P := by
  apply en_X7_needed
  exact m_neededNow h k
end

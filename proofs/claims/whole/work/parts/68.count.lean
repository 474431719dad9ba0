/-! ===== the same answers: count ===== -/
noncomputable def cn3 (g : gd_T) (B : Nat) : Int32 := match sb g B with
  | none => -1
  | some S => nI (gd_pop S 10)
noncomputable def cn4 (g : gd_T) (B : Nat) : Int32 := match sb g B with
  | none => -1
  | some S => nI (gd_pop (gd_bits (nd_b g B S) 10) 10)
noncomputable def cn5 (g : gd_T) (B : Nat) : Int32 := match sb g B with
  | none => 0
  | some _ => 1
noncomputable def cn (g : gd_T) (B : Nat) (H : Nat → Int) (f c : Int32) : Int32 := if c = 0 then nI g.1 else if c = 1 then nI (gd_pop B 10) else if c = 2 then nI (wn g 10) else if c = 3 then cn3 g B else if c = 4 then cn4 g B else if c = 5 then cn5 g B else if c = 6 then cx_n g (sb g B) else if c = 7 then pr g B H else if c = 8 then f else -2
theorem cn_0 {g : gd_T} {B : Nat} {H : Nat → Int} {f : Int32} : cn g B H f 0 = nI g.1 := rfl
theorem cn_1 {g : gd_T} {B : Nat} {H : Nat → Int} {f : Int32} : cn g B H f 1 = nI (gd_pop B 10) := rfl
theorem cn_2 {g : gd_T} {B : Nat} {H : Nat → Int} {f : Int32} : cn g B H f 2 = nI (wn g 10) := rfl
theorem cn_3 {g : gd_T} {B : Nat} {H : Nat → Int} {f : Int32} : cn g B H f 3 = cn3 g B := rfl
theorem cn_4 {g : gd_T} {B : Nat} {H : Nat → Int} {f : Int32} : cn g B H f 4 = cn4 g B := rfl
theorem cn_5 {g : gd_T} {B : Nat} {H : Nat → Int} {f : Int32} : cn g B H f 5 = cn5 g B := rfl
theorem cn_6 {g : gd_T} {B : Nat} {H : Nat → Int} {f : Int32} : cn g B H f 6 = cx_n g (sb g B) := rfl
theorem cn_7 {g : gd_T} {B : Nat} {H : Nat → Int} {f : Int32} : cn g B H f 7 = pr g B H := rfl
theorem cn_8 {g : gd_T} {B : Nat} {H : Nat → Int} {f : Int32} : cn g B H f 8 = f := rfl
section
variable {K : jj_K} {w : wo_T}
theorem c_bitsOrNone {P : Int32 → wo_T → Prop} {a : Nat} (ha : a < 1024) (k : P (nI (gd_pop a 10)) w) : jj_Ci K mX6_bitsOrNone [.int (nI a)] w P := by
  apply en_X6_bitsOrNone
  exact ⟨fun _ => c_bits ha k, fun q => absurd (nI_pos' (by omega)) q⟩
theorem c_bitsNone {P : Int32 → wo_T → Prop} (k : P (-1) w) : jj_Ci K mX6_bitsOrNone [.int (-3)] w P := by
  apply en_X6_bitsOrNone
  exact ⟨fun q => absurd q (by decide), fun _ => k⟩
theorem c_count {P : Int32 → wo_T → Prop} (h : ci w) (hH : h_ok (hc w)) (c : Int32) (k : ∀ u, cq w u → ci u → P (cn (gc_g w) (cb w) (hc w) (w.1 0 7) c) u) : jj_Ci K mX6_count [.ref 0, .int c] w P := by
  have hm := gc_m h.1
  obtain ⟨z1, z2⟩ := ev_lt hm
  have hB := h.2.1.2
  have b10 : ∀ f, gd_bits f 10 < 1024 := fun f => gd_bits_lt f 10
  apply en_X6_count
  refine ⟨fun e => ?_, fun e => ?_, fun e => ?_, fun e => ?_, fun e => ?_, fun e => ?_, fun e => ?_, fun e => ?_, fun e => ?_, fun e0 e1 e2 e3 e4 e5 e6 e7 e8 => ?_⟩
  · subst e
    have := k w (cq_rf w) h
    rw [cn_0, ← h.1.2.1] at this
    exact this
  · subst e
    have := k w (cq_rf w) h
    rw [cn_1] at this
    rw [h.2.1.1]
    exact c_bits (by omega) this
  · subst e
    have := k w (cq_rf w) h
    rw [cn_2] at this
    exact c_ways h.1 this
  · subst e
    refine c_frame h (fun u L hf => ?_)
    have := k u hf.1 (cf_ci h hf)
    rw [cn_3] at this
    unfold cn3 at this
    cases hs : sb (gc_g w) (cb w) with
    | none =>
      rw [hs] at this
      exact c_bitsNone this
    | some S =>
      rw [hs] at this
      have := (sb_brs hs).2.1
      exact c_bitsOrNone (by omega) (by assumption)
  · subst e
    refine c_needed h (fun u L hf => ?_)
    have := k u hf.1 (cf_ci h hf)
    rw [cn_4] at this
    unfold cn4 at this
    unfold nd
    cases hs : sb (gc_g w) (cb w) with
    | none =>
      rw [hs] at this
      exact c_bitsNone this
    | some S =>
      rw [hs] at this
      exact c_bitsOrNone (b10 _) this
  · subst e
    refine c_frame h (fun u L hf => ?_)
    have := k u hf.1 (cf_ci h hf)
    rw [cn_5] at this
    unfold cn5 at this
    cases hs : sb (gc_g w) (cb w) with
    | none =>
      rw [hs] at this
      exact ⟨fun q => absurd q (show ¬ (0 : Int32) ≤ -3 by decide), fun _ => this⟩
    | some S =>
      rw [hs] at this
      have hS := (sb_brs hs).2.1
      exact ⟨fun _ => this, fun q => absurd (nI_pos' (n := S) (by omega)) q⟩
  · subst e
    exact c_crossings h (fun u hq hu => k u hq hu)
  · subst e
    exact c_proves h hH (fun u hq hu => k u hq hu)
  · subst e
    exact k w (cq_rf w) h
  · have := k w (cq_rf w) h
    unfold cn at this
    rw [if_neg e0, if_neg e1, if_neg e2, if_neg e3, if_neg e4, if_neg e5, if_neg e6, if_neg e7, if_neg e8] at this
    exact this
theorem m_count {P : Int32 → wo_T → Prop} (h : mi w) (hH : h_ok (hm w)) (c : Int32) (k : ∀ u, mq w u → mi u → P (cn (gm_g w) (mb w) (hm w) (w.1 58 21) c) u) : jj_Ci K mX7_count [.ref 58, .int c] w P := by
  have hmm := gm_m h.1
  obtain ⟨z1, z2⟩ := ev_lt hmm
  have hB := h.2.1.2
  have b10 : ∀ f, gd_bits f 10 < 1024 := fun f => gd_bits_lt f 10
  apply en_X7_count
  rw [h.2.1.1]
  refine m_best h h.2.1.2 (fun u hq hu hT => ?_)
  have hg := mq_g hq
  have hb := mq_b hq
  have hh := mq_h hq
  refine ⟨fun e => ?_, fun e => ?_, fun e => ?_, fun e => ?_, fun e => ?_, fun e => ?_, fun e => ?_, fun e => ?_, fun e => ?_, fun e0 e1 e2 e3 e4 e5 e6 e7 e8 => ?_⟩
  · subst e
    have := k u hq hu
    rw [cn_0, ← h.1.2.1] at this
    rw [hq.2 5 (by decide) (by decide) (by decide) (by decide) (by decide)]
    exact this
  · subst e
    have := k u hq hu
    rw [cn_1] at this
    rw [hu.2.1.1, hb]
    exact m_size (by omega) this
  · subst e
    have := k u hq hu
    rw [cn_2] at this
    refine m_ways hu.1 ?_
    rw [hg]
    exact this
  · subst e
    have := k u hq hu
    rw [cn_3] at this
    unfold cn3 at this
    cases hs : sb (gm_g w) (mb w) with
    | none =>
      rw [hs] at this
      exact ⟨fun q => absurd rfl q, fun _ => this⟩
    | some S =>
      rw [hs] at this
      have hS := (sb_brs hs).2.1
      exact ⟨fun _ => m_size (by omega) this, fun q => absurd q (eb_ne (S := S) (by omega))⟩
  · subst e
    cases hs : sb (gm_g w) (mb w) with
    | none =>
      have := k u hq hu
      rw [cn_4] at this
      unfold cn4 at this
      rw [hs] at this
      exact ⟨fun q => absurd rfl q, fun _ => this⟩
    | some S =>
      have hS := (sb_brs hs).2.1
      refine ⟨fun _ => m_neededNow hu (fun u2 hq2 hu2 => ?_), fun q => absurd q (eb_ne (S := S) (by omega))⟩
      have := k u2 (mq_tr hq hq2) hu2
      rw [cn_4] at this
      unfold cn4 at this
      rw [hs] at this
      unfold nd
      rw [hg, hb, hs]
      exact m_size (b10 _) this
  · subst e
    have := k u hq hu
    rw [cn_5] at this
    unfold cn5 at this
    cases hs : sb (gm_g w) (mb w) with
    | none =>
      rw [hs] at this
      exact ⟨fun q => absurd rfl q, fun _ => this⟩
    | some S =>
      rw [hs] at this
      have hS := (sb_brs hs).2.1
      exact ⟨fun _ => this, fun q => absurd q (eb_ne (S := S) (by omega))⟩
  · subst e
    refine m_crossings hu (fun u2 hq2 hu2 => ?_)
    have := k u2 (mq_tr hq hq2) hu2
    rw [cn_6] at this
    rw [hg, hb]
    exact this
  · subst e
    refine m_provesNow hu (by rw [hh]; exact hH) (fun u2 hq2 hu2 => ?_)
    have := k u2 (mq_tr hq hq2) hu2
    rw [cn_7] at this
    rw [hg, hb, hh]
    exact this
  · subst e
    have := k u hq hu
    rw [cn_8] at this
    rw [hq.2 21 (by decide) (by decide) (by decide) (by decide) (by decide)]
    exact this
  · have := k u hq hu
    unfold cn at this
    rw [if_neg e0, if_neg e1, if_neg e2, if_neg e3, if_neg e4, if_neg e5, if_neg e6, if_neg e7, if_neg e8] at this
    exact this
theorem s_count (h : iv w) (a : Int32) : e_i K mX6_count mX7_count [.ref 0, .int a] [.ref 58, .int a] w := by
  refine c_count h.1 h.2.2.1 a (fun u hq hu => ?_)
  obtain ⟨hi, e1, e2, e3⟩ := iv_c_g h hq hu
  refine m_count hi.2.1 (iv_hm hi) a (fun u2 hq2 hu2 => ⟨?_, iv_m hi hq2 hu2⟩)
  rw [e1, e2, e3, ← hi.2.2.2.2.2.2.2.2.2.2.1, hq.2 7 (by decide)]
end

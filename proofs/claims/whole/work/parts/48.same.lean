/-! ===== the same answers: questions ===== -/
abbrev e_l (K : jj_K) (N M : jj_M) (as bs : List Value) (w : wo_T) : Prop := jj_Cl K N as w (fun v u => jj_Cl K M bs u (fun v' u' => v' = v ∧ iv u'))
section
variable {K : jj_K} {w : wo_T}
/-- behind a question to the class -/
theorem iv_c_g {u : wo_T} (h : iv w) (hq : cq w u) (hu : ci u) : iv u ∧ gm_g u = gc_g w ∧ mb u = cb w ∧ hm u = hc w := by
  have hi := iv_c h hq hu
  exact ⟨hi, (iv_g hi).trans (cq_g hq), (iv_b hi).trans (cq_b hq), (iv_h hi).trans (cq_h hq)⟩
theorem iv_m10 (h : iv w) : gd_m (gc_g w) ≤ 10 := gc_m h.1.1
theorem iv_inj (h : iv w) {j i : Nat} (hj : j < gd_m (gc_g w)) (hi : i < gd_m (gc_g w)) (e : nI j = nI i) : j = i := by
  have := iv_m10 h
  exact (nI_eq (by omega) (by omega)).mp e
theorem s_least (h : iv w) (c : Int32) : e_l K mX6_least mX7_least [.ref 0, .int c] [.ref 58, .int c] w := by
  refine c_least h.1 c (fun u hq hu => ?_)
  obtain ⟨hi, e1, e2, -⟩ := iv_c_g h hq hu
  refine m_least hi.2.1 c (fun u2 hq2 hu2 => ⟨?_, iv_m hi hq2 hu2⟩)
  rw [e1, e2]
theorem s_fault (h : iv w) : e_i K mX6_fault mX7_fault [.ref 0] [.ref 58] w := by
  refine c_fault h.1 (fun u hq hu => ?_)
  obtain ⟨hi, e1, e2, -⟩ := iv_c_g h hq hu
  refine m_fault hi.2.1 (fun u2 hq2 hu2 => ⟨?_, iv_m hi hq2 hu2⟩)
  rw [e1, e2]
theorem s_frame (h : iv w) : e_i K mX6_frame mX7_frame [.ref 0] [.ref 58] w := by
  refine c_frame h.1 (fun u L hf => ?_)
  obtain ⟨hi, e1, e2, -⟩ := iv_c_g h hf.1 (cf_ci h.1 hf)
  refine m_frame hi.2.1 (fun u2 hq2 hu2 => ⟨?_, iv_m hi hq2 hu2⟩)
  rw [e1, e2]
theorem s_needed (h : iv w) : e_i K mX6_needed mX7_needed [.ref 0] [.ref 58] w := by
  refine c_needed h.1 (fun u L hf => ?_)
  obtain ⟨hi, e1, e2, -⟩ := iv_c_g h hf.1 (cf_ci h.1 hf)
  refine m_needed hi.2.1 (fun u2 hq2 hu2 => ⟨?_, iv_m hi hq2 hu2⟩)
  rw [e1, e2]
theorem s_dearest (h : iv w) : e_i K mX6_dearest mX7_dearest [.ref 0] [.ref 58] w := by
  refine c_dearest h.1 (fun u L hf => ?_)
  obtain ⟨hi, e1, e2, -⟩ := iv_c_g h hf.1 (cf_ci h.1 hf)
  refine m_dearest hi.2.1 (fun u2 hq2 hu2 => ⟨?_, iv_m hi hq2 hu2⟩)
  rw [e1, e2]
theorem s_proves (h : iv w) : e_i K mX6_proves mX7_proves [.ref 0] [.ref 58] w := by
  refine c_proves h.1 h.2.2.1 (fun u hq hu => ?_)
  obtain ⟨hi, e1, e2, e3⟩ := iv_c_g h hq hu
  refine m_proves hi.2.1 (iv_hm hi) (fun u2 hq2 hu2 => ⟨?_, iv_m hi hq2 hu2⟩)
  rw [e1, e2, e3]
theorem s_why (h : iv w) (a : Int32) : e_i K mX6_why mX7_why [.ref 0, .int a] [.ref 58, .int a] w := by
  refine c_why h.1 a (fun j u hj e hb hq hu => ?_) (fun hno => ?_)
  · obtain ⟨hi, e1, e2, -⟩ := iv_c_g h hq hu
    refine m_why hi.2.1 a (fun j' u2 hj' e' hb' hq2 hu2 => ⟨?_, iv_m hi hq2 hu2⟩) (fun hno => ?_)
    · rw [e1] at hj'
      rw [e1, e2, iv_inj h hj hj' (e ▸ e')]
    · exfalso
      have := hno j (by rw [e1]; exact hj) e
      rw [e2, hb] at this; cases this
  · refine m_why h.2.1 a (fun j' u2 hj' e' hb' hq2 hu2 => ?_) (fun _ => ⟨rfl, h⟩)
    exfalso
    rw [iv_g h] at hj'
    rw [iv_b h, hno j' hj' e'] at hb'; cases hb'
theorem s_without (h : iv w) (a c : Int32) : e_l K mX6_without mX7_without [.ref 0, .int a, .int c] [.ref 58, .int a, .int c] w := by
  have hm := iv_m10 h
  obtain ⟨e10, e11⟩ := ev_lt hm
  have hB := h.1.2.1.2
  refine c_without h.1 a c (fun j u hj e hb hp hq hu => ?_) (fun hno => ?_)
  · obtain ⟨hi, e1, e2, -⟩ := iv_c_g h hq hu
    refine m_without hi.2.1 a c (fun j' u2 hj' e' hb' hp' hq2 hu2 => ⟨?_, iv_m hi hq2 hu2⟩) (fun hno => ?_)
    · rw [e1] at hj'
      rw [e1, e2, ← iv_inj h hj hj' (e ▸ e')]
      cases hs : sb (gc_g w) (cb w) with
      | none =>
        have := sb_mono (bwo_sub (k := j) (by omega)) hs
        unfold sl
        rw [this]
      | some S => rfl
    · exfalso
      rcases hno with hno | hno
      · have := hno j (by rw [e1]; exact hj) e
        rw [e2, hb] at this; cases this
      · rw [hp] at hno; cases hno
  · refine m_without h.2.1 a c (fun j' u2 hj' e' hb' hp' hq2 hu2 => ?_) (fun _ => ⟨rfl, h⟩)
    exfalso
    rw [iv_g h] at hj'
    rcases hno with hno | hno
    · rw [iv_b h, hno j' hj' e'] at hb'; cases hb'
    · rw [hp'] at hno; cases hno
theorem s_pull (h : iv w) (a c : Int32) : e_l K mX6_pull mX7_pull [.ref 0, .int a, .int c] [.ref 58, .int a, .int c] w := by
  refine c_pull h.1 a c (fun j u hj e hp hq hu => ?_) (fun hno => ?_)
  · obtain ⟨hi, e1, e2, -⟩ := iv_c_g h hq hu
    refine m_pull hi.2.1 a c (fun j' u2 hj' e' hp' hq2 hu2 => ⟨?_, iv_m hi hq2 hu2⟩) (fun hno => ?_)
    · rw [e1] at hj'
      rw [e1, e2, ← iv_inj h hj hj' (e ▸ e')]
      cases sb (gc_g w) (cb w) <;> rfl
    · exfalso
      rcases hno with hno | hno
      · exact hno j (by rw [e1]; exact hj) e
      · rw [hp] at hno; cases hno
  · refine m_pull h.2.1 a c (fun j' u2 hj' e' hp' hq2 hu2 => ?_) (fun _ => ⟨rfl, h⟩)
    exfalso
    rw [iv_g h] at hj'
    rcases hno with hno | hno
    · exact hno j' hj' e'
    · rw [hp'] at hno; cases hno
theorem s_gain (h : iv w) (a c : Int32) : e_l K mX6_gain mX7_gain [.ref 0, .int a, .int c] [.ref 58, .int a, .int c] w := by
  refine c_gain h.1 a c (fun j u hj e hb hp hq hu => ?_) (fun hno => ?_)
  · obtain ⟨hi, e1, e2, -⟩ := iv_c_g h hq hu
    refine m_gain hi.2.1 a c (fun j' u2 hj' e' hb' hp' hq2 hu2 => ⟨?_, iv_m hi hq2 hu2⟩) (fun hno => ?_)
    · rw [e1] at hj'
      rw [e1, e2, ← iv_inj h hj hj' (e ▸ e')]
      cases sb (gc_g w) (cb w) <;> cases sb (gc_g w) (bwi (cb w) j) <;> rfl
    · exfalso
      rcases hno with hno | hno
      · have := hno j (by rw [e1]; exact hj) e
        rw [e2, hb] at this; cases this
      · rw [hp] at hno; cases hno
  · refine m_gain h.2.1 a c (fun j' u2 hj' e' hb' hp' hq2 hu2 => ?_) (fun _ => ⟨rfl, h⟩)
    exfalso
    rw [iv_g h] at hj'
    rcases hno with hno | hno
    · rw [iv_b h, hno j' hj' e'] at hb'; cases hb'
    · rw [hp'] at hno; cases hno
theorem s_stretch (h : iv w) (a c : Int32) : e_l K mX6_stretch mX7_stretch [.ref 0, .int a, .int c] [.ref 58, .int a, .int c] w := by
  refine c_stretch h.1.1 h.2.2.1 a c (fun j hj e hp => ?_) (fun hno => ?_)
  · refine m_stretch h.2.1.1 (iv_hm h) a c (fun j' hj' e' hp' => ⟨?_, h⟩) (fun hno => ?_)
    · rw [iv_g h] at hj'
      rw [iv_g h, iv_h h, ← iv_inj h hj hj' (e ▸ e')]
    · exfalso
      rcases hno with hno | hno
      · exact hno j (by rw [iv_g h]; exact hj) e
      · rw [hp] at hno; cases hno
  · refine m_stretch h.2.1.1 (iv_hm h) a c (fun j' hj' e' hp' => ?_) (fun _ => ⟨rfl, h⟩)
    exfalso
    rw [iv_g h] at hj'
    rcases hno with hno | hno
    · exact hno j' hj' e'
    · rw [hp'] at hno; cases hno
theorem s_work (h : iv w) (c : Int32) : e_l K mX6_work mX7_work [.ref 0, .int c] [.ref 58, .int c] w := by
  refine c_work h.1.1 h.2.2.1 c (m_work h.2.1.1 (iv_hm h) c ⟨?_, h⟩)
  rw [iv_g h, iv_h h]
theorem m_infoOf {P : Int32 → wo_T → Prop} (h : gm_ok w) {p : Nat} (hp : p < (gm_g w).1) {c : Int32} (hcc : ∃ j : Nat, j < 7 ∧ c = nI j) (k : P (inf (w.1 59) (w.1 60) (w.1 61) (w.1 62) (w.1 63) p c) w) : jj_Ci K mX7_infoOf [.ref 58, .int (nI p), .int c] w P := by
  have hn := gm_n h
  apply en_X7_infoOf
  obtain ⟨j, hj, e⟩ := hcc
  subst e
  have f1 : ∀ j, j < 7 → ∀ p, p < 5 → 3 ≤ j → nI (2 * p) + nI j - 3 = nI (2 * p + j - 3) := by decide +kernel
  have f2 : ∀ j, j < 7 → ∀ p, p < 5 → 5 ≤ j → nI (2 * p) + nI j - 5 = nI (2 * p + j - 5) := by decide +kernel
  have v3 : vp_in (nI p) 5 := nn_inn (by omega) (by decide)
  rw [nn_two, nI_clamp (n := p) (by omega)]
  unfold inf at k
  have hq : ∀ a b : Nat, a < 7 → b < 7 → (nI a = nI b ↔ a = b) := fun a b ha hb => nI_eq (by omega) (by omega)
  refine ⟨fun q => ⟨v3, ?_⟩, fun q => ⟨v3, ?_⟩, fun q => ⟨v3, ?_⟩, fun q => ?_, fun q => ?_, fun q0 q1 q2 q3 q4 => ?_⟩
  · rw [if_pos q] at k; exact k
  · rw [q] at k; exact k
  · rw [q] at k; exact k
  · have e : j = 3 := (hq j 3 hj (by decide)).mp q
    subst e
    rw [f1 3 (by decide) p (by omega) (by decide), nI_clamp (by omega)]
    exact ⟨nn_inn (by omega) (by decide), k⟩
  · have e : j = 4 := (hq j 4 hj (by decide)).mp q
    subst e
    rw [f1 4 (by decide) p (by omega) (by decide), nI_clamp (by omega)]
    exact ⟨nn_inn (by omega) (by decide), k⟩
  · have n0 : j ≠ 0 := fun e => q0 (by rw [e]; rfl)
    have n1 : j ≠ 1 := fun e => q1 (by rw [e]; rfl)
    have n2 : j ≠ 2 := fun e => q2 (by rw [e]; rfl)
    have n3 : j ≠ 3 := fun e => q3 (by rw [e]; rfl)
    have n4 : j ≠ 4 := fun e => q4 (by rw [e]; rfl)
    rw [f2 j hj p (by omega) (by omega), nI_clamp (by omega)]
    refine ⟨nn_inn (by omega) (by decide), ?_⟩
    rcases (show j = 5 ∨ j = 6 by omega) with e | e
    · subst e; exact k
    · subst e; exact k
theorem s_info (h : iv w) (a c : Int32) : e_i K mX6_info mX7_info [.ref 0, .int a, .int c] [.ref 58, .int a, .int c] w := by
  have hg := iv_g h
  have h0 := h
  obtain ⟨-, -, -, l1, l2, l3, l4, l5, l6, -⟩ := h0
  have ez : (6 : Int32) = nI 7 - 1 := by decide
  refine c_info h.1.1 a c (fun p hp e => ?_) (fun hno => ?_)
  · apply en_X7_info
    refine m_isPoint h.2.1.1 a (fun p' hp' e' => ⟨fun q => absurd q (by decide), fun _ => ?_⟩) (fun hno => absurd e (hno p (by rw [hg]; exact hp)))
    rw [ez]
    subst e
    refine m_below (n := 7) (by decide) c (fun j hj ec => ⟨fun q => absurd q (by decide), fun _ => m_infoOf h.2.1.1 (by rw [hg]; exact hp) ⟨j, hj, ec⟩ ⟨?_, h⟩⟩) (fun hno => ⟨fun _ => ⟨?_, h⟩, fun q => absurd rfl q⟩)
    · unfold inf
      simp only [l2, l3, l4, l5, l6]
    · unfold inf
      have n0 : ¬ c = 0 := hno 0 (by decide)
      have n1 : ¬ c = 1 := hno 1 (by decide)
      have n2 : ¬ c = 2 := hno 2 (by decide)
      have n3 : ¬ c = 3 := hno 3 (by decide)
      have n4 : ¬ c = 4 := hno 4 (by decide)
      have n5 : ¬ c = 5 := hno 5 (by decide)
      have n6 : ¬ c = 6 := hno 6 (by decide)
      simp [n0, n1, n2, n3, n4, n5, n6]
  · apply en_X7_info
    exact m_isPoint h.2.1.1 a (fun p' hp' e' => absurd e' (hno p' (by rw [← hg]; exact hp'))) (fun _ => ⟨fun _ => ⟨rfl, h⟩, fun q => absurd rfl q⟩)
theorem s_pair (h : iv w) (a c : Int32) : e_i K mX6_pair mX7_pair [.ref 0, .int a, .int c] [.ref 58, .int a, .int c] w := by
  have hg := iv_g h
  have ez : (3 : Int32) = nI 4 - 1 := by decide
  refine c_pair h.1 a c (fun j hj e => ?_) (fun hno => ?_)
  · apply en_X7_pair
    refine m_isPair h.2.1.1 a (fun j' hj' e' => ⟨fun q => absurd q (by decide), fun _ => ?_⟩) (fun hno => absurd e (hno j (by rw [hg]; exact hj)))
    rw [ez]
    subst e
    refine m_below (n := 4) (by decide) c (fun i hi ec => ⟨fun q => absurd q (by decide), fun _ => m_pairOf h.2.1 (by rw [hg]; exact hj) ?_ ⟨?_, h⟩⟩) (fun hno => ⟨fun _ => ⟨?_, h⟩, fun q => absurd rfl q⟩)
    · rcases (show i = 0 ∨ i = 1 ∨ i = 2 ∨ i = 3 by omega) with e | e | e | e <;> subst e <;> rw [ec]
      · exact Or.inl rfl
      · exact Or.inr (Or.inl rfl)
      · exact Or.inr (Or.inr (Or.inl rfl))
      · exact Or.inr (Or.inr (Or.inr rfl))
    · rw [hg, iv_b h]
    · unfold pai
      have n0 : ¬ c = 0 := hno 0 (by decide)
      have n1 : ¬ c = 1 := hno 1 (by decide)
      have n2 : ¬ c = 2 := hno 2 (by decide)
      have n3 : ¬ c = 3 := hno 3 (by decide)
      simp [n0, n1, n2, n3]
  · apply en_X7_pair
    exact m_isPair h.2.1.1 a (fun p' hp' e' => absurd e' (hno p' (by rw [← hg]; exact hp'))) (fun _ => ⟨fun _ => ⟨rfl, h⟩, fun q => absurd rfl q⟩)
end

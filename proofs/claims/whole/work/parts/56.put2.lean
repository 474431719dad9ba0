/-! ===== the same answers: put ===== -/
section
variable {K : jj_K} {w : wo_T}
theorem s_put (h : iv w) (a b c d : Int32) : e_i K mX6_put mX7_put [.ref 0, .int a, .int b, .int c, .int d] [.ref 58, .int a, .int b, .int c, .int d] w := by
  have l9 := h.2.2.2.2.2.2.2.2.2.2.2
  apply en_X6_put
  refine c_isSheet a (fun s hs e => ⟨fun q => absurd q (by decide), fun _ => c_isWithin b 0 1 ?_⟩) (fun hno => ⟨fun _ => ?_, fun q => absurd rfl q⟩)
  · subst e
    have v4 : vp_in (nI s) 4 := nn_inn hs (by decide)
    cases hb : isIn b 0 1 with
    | false =>
      refine ⟨fun q => absurd rfl q, fun _ => ?_⟩
      apply en_X7_put
      refine m_isSheet (nI s) (fun s' hs' e' => ⟨fun q => absurd q (by decide), fun _ => m_isIn b 0 1 ?_⟩) (fun hno => absurd rfl (hno s hs))
      rw [hb]
      exact ⟨fun q => absurd rfl q, fun _ => ⟨rfl, h⟩⟩
    | true =>
      rw [nI_clamp (by omega)]
      obtain ⟨hst, hsz, ⟨n, hn, hnz⟩, hit⟩ := l9 s hs
      have f69 : ∀ v : Int32, (wo_i w 0 7 v).1 69 s = w.1 69 s := fun v => by rw [wo_i_ne 69 (by decide)]
      have f70 : ∀ v : Int32, (wo_i w 0 7 v).1 70 s = w.1 70 s := fun v => by rw [wo_i_ne 70 (by decide)]
      refine ⟨fun _ => ⟨v4, ?_⟩, fun q => absurd q (by decide)⟩
      rcases hst with ⟨c1, c2, c3⟩ | ⟨c1, c2⟩
      · have hne : ¬ w.1 69 s = -1 := by
          rcases c3 with q | q <;> rw [q] <;> decide
        rw [c1, ← c2, hsz]
        refine ⟨fun _ => ⟨fun hfb => c_isWithin c 0 _ ?_, fun hfb => c_found 3 ?_⟩, fun q => absurd rfl q⟩
        · cases hcn : isIn c 0 (w.1 70 s - 1) with
          | false =>
            refine ⟨fun q => absurd rfl q, fun _ => c_found 2 (m_put hs hb c d ?_ ?_ ?_ ?_ ?_)⟩
            · rw [f69]; exact fun q => absurd q hne
            · rw [f69]; exact fun _ q => absurd hfb q
            · exact fun _ _ _ => ⟨rfl, iv_find h 2⟩
            · rw [f70, hcn]; exact fun _ _ q => by cases q
            · rw [f70, hcn]; exact fun _ _ q => by cases q
          | true =>
            obtain ⟨i, hi, ei⟩ := isIn_nat (n := n) (by omega) (by rw [← hnz]; exact hcn)
            have write : p_ov b d = false → vp_in c 40 ∧ jj_Ci K mX7_put [.ref 58, .int (nI s), .int b, .int c, .int d] (wo_l w (50 + 2 * s + 1) c.toNatClampNeg (p_v b d)) (fun v' u' => v' = 1 ∧ iv u') := fun ho => by
              rw [ei, nI_clamp (by omega), ← ei]
              refine ⟨by rw [ei]; exact nn_inn (by omega) (by decide), m_put hs hb c d (fun q => absurd q hne) (fun _ q => absurd hfb q) (fun _ _ q => ?_) (fun _ _ _ q => ?_) (fun _ _ _ _ => ⟨i, by omega, ei, rfl, iv_item h hs (by omega) _⟩)⟩
              · have q' : isIn c 0 (w.1 70 s - 1) = false := q
                rw [hcn] at q'; cases q'
              · rw [ho] at q; cases q
            refine ⟨fun _ => ⟨fun q => ⟨fun _ => ?_, fun q2 => absurd q2 q⟩, fun q => c_isWithin d _ _ ?_⟩, fun q => absurd q (by decide)⟩
            · have := write (by unfold p_ov; simp [q])
              unfold p_v at this
              rw [if_neg q] at this
              exact this
            · cases hd : isIn d (-2097152) 2097151 with
              | true =>
                refine ⟨fun _ => ⟨fun q2 => absurd q q2, fun _ => ?_⟩, fun q => absurd q (by decide)⟩
                have := write (by unfold p_ov; simp [hd])
                unfold p_v at this
                rw [if_pos q] at this
                exact this
              | false =>
                refine ⟨fun q => absurd rfl q, fun _ => c_found 6 (m_put hs hb c d ?_ ?_ ?_ ?_ ?_)⟩
                · rw [f69]; exact fun q => absurd q hne
                · rw [f69]; exact fun _ q => absurd hfb q
                · rw [f70, hcn]; exact fun _ _ q => by cases q
                · exact fun _ _ _ _ => ⟨rfl, iv_find h 6⟩
                · intro _ _ _ q2
                  unfold p_ov at q2
                  simp [hd, q] at q2
        · refine m_put hs hb c d ?_ ?_ ?_ ?_ ?_
          · rw [f69]; exact fun q => absurd q hne
          · exact fun _ _ => ⟨rfl, iv_find h 3⟩
          · rw [f69]; exact fun _ q => absurd q hfb
          · rw [f69]; exact fun _ q => absurd q hfb
          · rw [f69]; exact fun _ q => absurd q hfb
      · rw [c1]
        refine ⟨fun q => absurd q (by decide), fun _ => c_found 1 (m_put hs hb c d ?_ ?_ ?_ ?_ ?_)⟩
        · exact fun _ => ⟨rfl, iv_find h 1⟩
        · rw [f69]; exact fun q => absurd c2 q
        · rw [f69]; exact fun q => absurd c2 q
        · rw [f69]; exact fun q => absurd c2 q
        · rw [f69]; exact fun q => absurd c2 q
  · apply en_X7_put
    exact m_isSheet a (fun s hs e => absurd e (hno s hs)) (fun _ => ⟨fun _ => ⟨rfl, h⟩, fun q => absurd rfl q⟩)
end

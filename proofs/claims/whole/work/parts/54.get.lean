/-! ===== the same answers: get, put ===== -/
section
variable {K : jj_K} {w : wo_T}
theorem nn_40 (s i : Nat) : 40 * nI s + nI i = nI (40 * s + i) := by
  have : 40 * nI s = nI (40 * s) := pk_mul 40 s
  rw [this, nI_add]
theorem s_get (h : iv w) (a b : Int32) : e_l K mX6_get mX7_get [.ref 0, .int a, .int b] [.ref 58, .int a, .int b] w := by
  have l9 := h.2.2.2.2.2.2.2.2.2.2.2
  apply en_X6_get
  refine c_isSheet a (fun s hs e => ⟨fun _ => ⟨?_, ?_⟩, fun q => absurd q (by decide)⟩) (fun hno => ⟨fun q => absurd rfl q, fun _ => c_asLong (-2) ?_⟩)
  · rw [e]; exact nn_inn hs (by decide)
  · subst e
    have v4 : vp_in (nI s) 4 := nn_inn hs (by decide)
    rw [nI_clamp (by omega)]
    obtain ⟨hst, hsz, ⟨n, hn, hnz⟩, hit⟩ := l9 s hs
    rcases hst with ⟨c1, c2, c3⟩ | ⟨c1, c2⟩
    · have hne : ¬ w.1 69 s = -1 := by
        rcases c3 with q | q <;> rw [q] <;> decide
      rw [c1, hsz, hnz]
      refine ⟨fun _ => c_isWithin b 0 (nI n - 1) ?_, fun q => absurd rfl q⟩
      cases hb : isIn b 0 (nI n - 1) with
      | true =>
        obtain ⟨i, hi, e⟩ := isIn_nat (by omega) hb
        subst e
        have vi : vp_in (nI i) 40 := nn_inn (by omega) (by decide)
        refine ⟨fun _ => ⟨vi, ?_⟩, fun q => absurd q (by decide)⟩
        rw [nI_clamp (by omega)]
        apply en_X7_get
        refine m_isSheet (nI s) (fun s' hs' e' => ⟨fun _ => ⟨v4, ?_⟩, fun q => absurd q (by decide)⟩) (fun hno => absurd rfl (hno s hs))
        rw [nI_clamp (by omega), hnz]
        refine ⟨fun _ => ⟨v4, m_isIn (nI i) 0 (nI n - 1) ?_⟩, fun q => absurd q hne⟩
        rw [hb, nn_40, nI_clamp (by omega)]
        refine ⟨fun q => absurd q (by decide), fun _ => ⟨nn_inn (by omega) (by decide), ?_, h⟩⟩
        have := hit i (by omega)
        have e51 : 51 + 2 * s = 50 + 2 * s + 1 := by omega
        rw [e51] at this
        exact this.symm
      | false =>
        refine ⟨fun q => absurd rfl q, fun _ => c_found 2 (c_asLong _ ?_)⟩
        apply en_X7_get
        refine m_isSheet (nI s) (fun s' hs' e' => ⟨fun _ => ⟨v4, ?_⟩, fun q => absurd q (by decide)⟩) (fun hno => absurd rfl (hno s hs))
        rw [nI_clamp (by omega), wo_i_ne 69 (by decide), wo_i_ne 70 (by decide), hnz]
        refine ⟨fun _ => ⟨v4, m_isIn b 0 (nI n - 1) ?_⟩, fun q => absurd q hne⟩
        rw [hb]
        exact ⟨fun _ => m_meets 2 (m_no _ ⟨rfl, iv_find h 2⟩), fun q => absurd rfl q⟩
    · rw [c1]
      refine ⟨fun q => absurd q (by decide), fun _ => c_found 1 (c_asLong _ ?_)⟩
      apply en_X7_get
      refine m_isSheet (nI s) (fun s' hs' e' => ⟨fun _ => ⟨v4, ?_⟩, fun q => absurd q (by decide)⟩) (fun hno => absurd rfl (hno s hs))
      rw [nI_clamp (by omega), wo_i_ne 69 (by decide), c2]
      exact ⟨fun q => absurd rfl q, fun _ => m_meets 1 (m_no _ ⟨rfl, iv_find h 1⟩)⟩
  · apply en_X7_get
    exact m_isSheet a (fun s hs e => absurd e (hno s hs)) (fun _ => ⟨fun q => absurd rfl q, fun _ => m_no (-2) ⟨rfl, h⟩⟩)
end

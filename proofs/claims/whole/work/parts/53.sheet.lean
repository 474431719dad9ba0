/-! ===== the same answers: sheets, lose and get ===== -/
theorem ci_fr0 {w u : wo_T} (h1 : ∀ b, b < 49 → b ≠ 0 → u.1 b = w.1 b) (h2 : ∀ b, b < 49 → u.2 b = w.2 b) (g : ∀ j, j ≠ 7 → u.1 0 j = w.1 0 j) (h : ci w) : ci u := by
  have hg : gc_g u = gc_g w := by
    unfold gc_g
    rw [h1 1 (by decide) (by decide), h1 2 (by decide) (by decide), h1 3 (by decide) (by decide), h1 4 (by decide) (by decide)]
  have hb : cb u = cb w := by unfold cb; rw [g 6 (by decide)]
  have hok : gc_ok u := by
    unfold gc_ok
    rw [hg, h1 1 (by decide) (by decide), h1 3 (by decide) (by decide), h1 6 (by decide) (by decide), h1 7 (by decide) (by decide)]
    exact h.1
  unfold ci
  rw [hg, hb, g 6 (by decide), g 8 (by decide)]
  refine ⟨hok, h.2.1, fun q => ?_⟩
  obtain ⟨L, s1, s2, s3, s4⟩ := h.2.2 q
  refine ⟨L, bk_L_fr (w := w) (by rw [h1 23 (by decide) (by decide)]) (h1 24 (by decide) (by decide)) (h2 25 (by decide)) (h2 26 (by decide)) s1, s2, ?_, fun T hT e => ?_⟩
  · unfold bn_c
    rw [h1 23 (by decide) (by decide)]
    exact s3
  · rw [h1 23 (by decide) (by decide)] at e
    obtain ⟨p, q, a1, a2, a3, a4, a5⟩ := s4 T hT e
    exact ⟨p, q, a1, a2, a3, by rw [h2 23 (by decide)]; exact a4, fun k hk => by rw [h2 27 (by decide)]; exact a5 k hk⟩
theorem mi_fr0 {w u : wo_T} (h1 : ∀ b, 58 < b → b < 69 → u.1 b = w.1 b) (h2 : ∀ b, 58 < b → b < 69 → u.2 b = w.2 b) (k0 : ∀ j, j ≠ 21 → u.1 58 j = w.1 58 j) (h : mi w) : mi u := by
  have hs : gm_s w u := ⟨k0 5 (by decide), h1 59 (by decide) (by decide), h1 60 (by decide) (by decide), h1 61 (by decide) (by decide), h1 62 (by decide) (by decide)⟩
  have hb : mb u = mb w := by unfold mb; rw [k0 6 (by decide)]
  unfold mi
  rw [gm_g_eq hs, hb, k0 6 (by decide)]
  refine ⟨gm_ok_eq hs h.1, h.2.1, ?_⟩
  unfold mt_k
  rw [k0 13 (by decide)]
  rcases h.2.2 with q | ⟨q, hT⟩
  · exact Or.inl q
  · exact Or.inr ⟨q, fun S hS => mt_e_eq (w := w) (by rw [h1 66 (by decide) (by decide)]) (by rw [h2 67 (by decide) (by decide)]) (by rw [h2 68 (by decide) (by decide)]) (hT S hS)⟩
/-- sheets and findings apart, nothing changed -/
theorem iv_sh {w u : wo_T} (h : iv w) (f1 : ∀ b, b < 49 → b ≠ 0 → u.1 b = w.1 b) (f2 : ∀ b, b < 49 → u.2 b = w.2 b) (m1 : ∀ b, 58 < b → b < 69 → u.1 b = w.1 b) (m2 : ∀ b, 58 < b → b < 69 → u.2 b = w.2 b) (g0 : ∀ j, j ≠ 7 → u.1 0 j = w.1 0 j) (k0 : ∀ j, j ≠ 21 → u.1 58 j = w.1 58 j) (e7 : u.1 0 7 = u.1 58 21) (ls : ∀ s, s < 4 → lk_s u s) : iv u := by
  obtain ⟨a1, a2, a3, l1, l2, l3, l4, l5, l6, l7, l8, l9⟩ := h
  have hh : hc u = hc w := by unfold hc; rw [f1 5 (by decide) (by decide)]
  refine ⟨ci_fr0 f1 f2 g0 a1, mi_fr0 m1 m2 k0 a2, by rw [hh]; exact a3, ?_, ?_, ?_, ?_, ?_, ?_, ?_, e7, ls⟩
  · rw [f1 1 (by decide) (by decide), k0 5 (by decide)]; exact l1
  · intro p; rw [f1 2 (by decide) (by decide), m1 59 (by decide) (by decide)]; exact l2 p
  · intro p; rw [f1 2 (by decide) (by decide), m1 60 (by decide) (by decide)]; exact l3 p
  · rw [f1 3 (by decide) (by decide), m1 61 (by decide) (by decide)]; exact l4
  · rw [f1 4 (by decide) (by decide), m1 62 (by decide) (by decide)]; exact l5
  · rw [f1 5 (by decide) (by decide), m1 63 (by decide) (by decide)]; exact l6
  · rw [g0 6 (by decide), k0 6 (by decide)]; exact l7
/-- a finding on both sides -/
theorem iv_find {w : wo_T} (h : iv w) (v : Int32) : iv (wo_i (wo_i w 0 7 v) 58 21 v) := by
  refine iv_sh h (fun b x y => by rw [wo_i_ne b (by omega), wo_i_ne b y]) (fun b x => rfl) (fun b x y => by rw [wo_i_ne b (by omega), wo_i_ne b (by omega)]) (fun b x y => rfl) (fun j hj => by rw [wo_i_ne 0 (by decide), wo_i_nk (by omega)]) (fun j hj => by rw [wo_i_nk (by omega), wo_i_ne 58 (by decide)]) (by rw [wo_i_ne 0 (by decide), wo_i_eq, wo_i_eq]) (fun s hs => ?_)
  exact lk_s_eq (w := w) hs (fun b x y => by rw [wo_i_ne b (by omega), wo_i_ne b (by omega)]) (fun b x y => rfl) (by rw [wo_i_ne 69 (by decide), wo_i_ne 69 (by decide)]) (by rw [wo_i_ne 70 (by decide), wo_i_ne 70 (by decide)]) rfl (h.2.2.2.2.2.2.2.2.2.2.2 s hs)
section
variable {K : jj_K} {w : wo_T}
theorem c_found {P : Int32 → wo_T → Prop} (a : Int32) (k : P ((-10) - a) (wo_i w 0 7 a)) : jj_Ci K mX6_found [.ref 0, .int a] w P := by
  apply en_X6_found
  exact k
theorem m_meets {P : Int32 → wo_T → Prop} (a : Int32) (k : P ((-10) - a) (wo_i w 58 21 a)) : jj_Ci K mX7_meets [.ref 58, .int a] w P := by
  apply en_X7_meets
  exact k
theorem c_isSheet {P : Int32 → wo_T → Prop} (a : Int32) (k1 : ∀ s, s < 4 → a = nI s → P 1 w) (k0 : (∀ s, s < 4 → ¬ a = nI s) → P 0 w) : jj_Ci K mX6_isSheet [.int a] w P := by
  apply en_X6_isSheet
  refine ⟨fun h => k0 (fun s hs e => ?_), fun h => ⟨fun h2 => k0 (fun s hs e => ?_), fun h2 => ?_⟩⟩
  · rw [e] at h; exact nI_pos (by omega) h
  · rw [e] at h2; exact nI_ge (b := 4) hs (by decide) h2
  · rcases pk_ix a (n := 4) (by decide) with q | q | ⟨j, hj, e⟩
    · exact absurd q h
    · exact absurd q h2
    · exact k1 j hj e
theorem m_isSheet {P : Int32 → wo_T → Prop} (a : Int32) (k1 : ∀ s, s < 4 → a = nI s → P 1 w) (k0 : (∀ s, s < 4 → ¬ a = nI s) → P 0 w) : jj_Ci K mX7_isSheet [.int a] w P := by
  apply en_X7_isSheet
  have e : (3 : Int32) = nI 4 - 1 := by decide
  rw [e]
  exact m_below (n := 4) (by decide) a (fun j hj e => ⟨Or.inr rfl, k1 j hj e⟩) (fun q => ⟨Or.inl rfl, k0 q⟩)
theorem s_lose (h : iv w) (a : Int32) : e_i K mX6_lose mX7_lose [.ref 0, .int a] [.ref 58, .int a] w := by
  have l9 := h.2.2.2.2.2.2.2.2.2.2.2
  apply en_X6_lose
  refine c_isSheet a (fun s hs e => ⟨fun _ => ⟨?_, ?_⟩, fun q => absurd q (by decide)⟩) (fun hno => ⟨fun q => absurd rfl q, fun _ => ?_⟩)
  · rw [e]; exact nn_inn hs (by decide)
  · subst e
    have v4 : vp_in (nI s) 4 := nn_inn hs (by decide)
    rw [nI_clamp (by omega)]
    obtain ⟨hst, hsz, ⟨n, hn, hnz⟩, hit⟩ := l9 s hs
    rcases hst with ⟨c1, c2, c3⟩ | ⟨c1, c2⟩
    · rw [c1]
      refine ⟨fun _ => ⟨v4, v4, ?_⟩, fun q => absurd rfl q⟩
      apply en_X7_lose
      refine m_isSheet (nI s) (fun s' hs' e' => ⟨fun _ => ⟨v4, ?_⟩, fun q => absurd q (by decide)⟩) (fun hno => absurd rfl (hno s hs))
      rw [nI_clamp (by omega), wo_i_ne 69 (by omega)]
      have hne : ¬ w.1 69 s = -1 := by
        rcases c3 with q | q <;> rw [q] <;> decide
      refine ⟨fun _ => ⟨v4, v4, ?_, ?_⟩, fun q => absurd q hne⟩
      · rw [wo_i_ne 70 (by decide), wo_i_ne 70 (by omega), wo_i_nk (by omega)]; exact hsz.symm
      · refine iv_sh h (fun b x y => by rw [wo_i_ne b (by omega), wo_i_ne b (by omega)]) (fun b x => rfl) (fun b x y => by rw [wo_i_ne b (by omega), wo_i_ne b (by omega)]) (fun b x y => rfl) (fun j hj => by rw [wo_i_ne 0 (by decide), wo_i_ne 0 (by omega)]) (fun j hj => by rw [wo_i_ne 58 (by decide), wo_i_ne 58 (by omega)]) (by rw [wo_i_ne 0 (by decide), wo_i_ne 0 (by omega), wo_i_ne 58 (by decide), wo_i_ne 58 (by omega)]; exact h.2.2.2.2.2.2.2.2.2.2.1) (fun t ht => ?_)
        rcases Nat.decEq t s with e | e
        · have o := l9 t ht
          unfold lk_s at o ⊢
          rw [wo_i_ne (50 + 2 * t) (by omega), wo_i_ne (50 + 2 * t) (by omega), wo_i_nk (b := 69) (by omega), wo_i_ne 69 (by omega), wo_i_ne 70 (by decide), wo_i_ne 70 (by omega)]
          exact o
        · subst e
          refine ⟨Or.inr ⟨?_, wo_i_eq⟩, ?_, ⟨n, hn, ?_⟩, hit⟩
          · rw [wo_i_ne _ (by omega), wo_i_eq]
          · rw [wo_i_ne _ (by omega), wo_i_nk (by omega), wo_i_ne 70 (by decide), wo_i_ne 70 (by omega)]; exact hsz
          · rw [wo_i_ne 70 (by decide), wo_i_ne 70 (by omega)]; exact hnz
    · rw [c1]
      refine ⟨fun q => absurd q (by decide), fun _ => c_found 1 ?_⟩
      apply en_X7_lose
      refine m_isSheet (nI s) (fun s' hs' e' => ⟨fun _ => ⟨v4, ?_⟩, fun q => absurd q (by decide)⟩) (fun hno => absurd rfl (hno s hs))
      rw [nI_clamp (by omega), wo_i_ne 69 (by decide), c2]
      exact ⟨fun q => absurd rfl q, fun _ => m_meets 1 ⟨rfl, iv_find h 1⟩⟩
  · apply en_X7_lose
    exact m_isSheet a (fun s hs e => absurd e (hno s hs)) (fun _ => ⟨fun q => absurd rfl q, fun _ => ⟨rfl, h⟩⟩)
end

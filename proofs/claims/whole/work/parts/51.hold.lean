/-! ===== the same answers: hold, load ===== -/
/-- the tie, out of its pieces, for worlds with the same points and bars -/
theorem iv_mk {w u : wo_T} (h : iv w) (hcu : ci u) (hmu : mi u) (f1 : ∀ b, b ≠ 0 → b ≠ 3 → b ≠ 4 → b ≠ 58 → b ≠ 61 → b ≠ 62 → u.1 b = w.1 b) (f2 : u.2 = w.2) (g6 : u.1 0 6 = w.1 0 6) (g7 : u.1 0 7 = w.1 0 7) (k5 : u.1 58 5 = w.1 58 5) (k6 : u.1 58 6 = w.1 58 6) (k21 : u.1 58 21 = w.1 58 21) (e3 : u.1 3 = u.1 61) (e4 : u.1 4 = u.1 62) : iv u := by
  obtain ⟨a1, a2, a3, l1, l2, l3, l4, l5, l6, l7, l8, l9⟩ := h
  have hh : hc u = hc w := by unfold hc; rw [f1 5 (by decide) (by decide) (by decide) (by decide) (by decide) (by decide)]
  refine ⟨hcu, hmu, by rw [hh]; exact a3, ?_, ?_, ?_, e3, e4, ?_, ?_, ?_, fun s hs => lk_s_eq (w := w) hs (fun b x y => f1 b (by omega) (by omega) (by omega) (by omega) (by omega) (by omega)) (fun b x y => by rw [f2]) (f1 69 (by decide) (by decide) (by decide) (by decide) (by decide) (by decide)) (f1 70 (by decide) (by decide) (by decide) (by decide) (by decide) (by decide)) (by rw [f2]) (l9 s hs)⟩
  · rw [f1 1 (by decide) (by decide) (by decide) (by decide) (by decide) (by decide), k5]; exact l1
  · intro p; rw [f1 2 (by decide) (by decide) (by decide) (by decide) (by decide) (by decide), f1 59 (by decide) (by decide) (by decide) (by decide) (by decide) (by decide)]; exact l2 p
  · intro p; rw [f1 2 (by decide) (by decide) (by decide) (by decide) (by decide) (by decide), f1 60 (by decide) (by decide) (by decide) (by decide) (by decide) (by decide)]; exact l3 p
  · rw [f1 5 (by decide) (by decide) (by decide) (by decide) (by decide) (by decide), f1 63 (by decide) (by decide) (by decide) (by decide) (by decide) (by decide)]; exact l6
  · rw [g6, k6]; exact l7
  · rw [g7, k21]; exact l8
/-- holds set on both sides -/
theorem iv_held {w : wo_T} (h : iv w) {p b : Nat} (hb : b < 4) : iv (wo_i (wo_i (wo_i (wo_i w 3 p (nI b)) 0 8 1) 61 p (nI b)) 58 13 0) := by
  generalize hu : wo_i (wo_i (wo_i (wo_i w 3 p (nI b)) 0 8 1) 61 p (nI b)) 58 13 0 = u
  have f1 : ∀ b, b ≠ 0 → b ≠ 3 → b ≠ 58 → b ≠ 61 → u.1 b = w.1 b := fun c x y z t => by rw [← hu, wo_i_ne c z, wo_i_ne c t, wo_i_ne c x, wo_i_ne c y]
  have f2 : u.2 = w.2 := by rw [← hu]; rfl
  have e3 : ∀ j, u.1 3 j = if j = p then nI b else w.1 3 j := fun j => by
    rw [← hu, wo_i_ne 3 (by decide), wo_i_ne 3 (by decide), wo_i_ne 3 (by decide)]
    by_cases e : j = p
    · rw [if_pos e, e, wo_i_eq]
    · rw [if_neg e, wo_i_nk (by omega)]
  have e61 : ∀ j, u.1 61 j = if j = p then nI b else w.1 61 j := fun j => by
    rw [← hu, wo_i_ne 61 (by decide)]
    by_cases e : j = p
    · rw [if_pos e, e, wo_i_eq]
    · rw [if_neg e, wo_i_nk (by omega), wo_i_ne 61 (by decide), wo_i_ne 61 (by decide)]
  have g0 : ∀ j, j ≠ 8 → u.1 0 j = w.1 0 j := fun j hj => by rw [← hu, wo_i_ne 0 (by decide), wo_i_ne 0 (by decide), wo_i_nk (by omega), wo_i_ne 0 (by decide)]
  have g8 : u.1 0 8 = 1 := by rw [← hu, wo_i_ne 0 (by decide), wo_i_ne 0 (by decide), wo_i_eq]
  have k0 : ∀ j, j ≠ 13 → u.1 58 j = w.1 58 j := fun j hj => by rw [← hu, wo_i_nk (by omega), wo_i_ne 58 (by decide), wo_i_ne 58 (by decide), wo_i_ne 58 (by decide)]
  have k13 : u.1 58 13 = 0 := by rw [← hu, wo_i_eq]
  have hoc : gc_ok u := gc_ok_of (w := w) (f1 1 (by decide) (by decide) (by decide) (by decide)) (f1 2 (by decide) (by decide) (by decide) (by decide)) (f1 6 (by decide) (by decide) (by decide) (by decide)) (f1 7 (by decide) (by decide) (by decide) (by decide)) (fun v hv => by
    rw [f1 4 (by decide) (by decide) (by decide) (by decide)]
    exact h.1.1.1.2.2.2 v hv) (fun q hq => by
    rw [e3 q]
    split
    · exact ⟨b, hb, rfl⟩
    · exact gc_held h.1.1 q hq) h.1.1
  have hom : gm_ok u := gm_ok_of (w := w) (k0 5 (by decide)) (f1 59 (by decide) (by decide) (by decide) (by decide)) (f1 60 (by decide) (by decide) (by decide) (by decide)) (fun v hv => by
    rw [f1 62 (by decide) (by decide) (by decide) (by decide)]
    exact h.2.1.1.1.2.2.2 v hv) (fun q hq => by
    rw [e61 q]
    split
    · exact ⟨b, hb, rfl⟩
    · exact gm_held h.2.1.1 q hq) h.2.1.1
  have nm : gd_m (gc_g u) = gd_m (gc_g w) := by
    have : (gc_g u).1 = (gc_g w).1 := by
      show (u.1 1 6).toInt.toNat = (w.1 1 6).toInt.toNat
      rw [f1 1 (by decide) (by decide) (by decide) (by decide)]
    unfold gd_m; rw [this]
  have nm2 : gd_m (gm_g u) = gd_m (gm_g w) := by
    have : (gm_g u).1 = (gm_g w).1 := by
      show (u.1 58 5).toInt.toNat = (w.1 58 5).toInt.toNat
      rw [k0 5 (by decide)]
    unfold gd_m; rw [this]
  have l4 := h.2.2.2.2.2.2.1
  have l5 := h.2.2.2.2.2.2.2.1
  refine iv_mk h (ci_stale hoc (g0 6 (by decide)) g8 nm h.1) (mi_stale hom (k0 6 (by decide)) k13 nm2 h.2.1) (fun b x y z t s r => f1 b x y t s) f2 (g0 6 (by decide)) (g0 7 (by decide)) (k0 5 (by decide)) (k0 6 (by decide)) (k0 21 (by decide)) (funext fun j => ?_) ?_
  · rw [e3, e61, l4]
  · rw [f1 4 (by decide) (by decide) (by decide) (by decide), f1 62 (by decide) (by decide) (by decide) (by decide)]; exact l5
/-- loads set on both sides -/
theorem iv_load {w : wo_T} (h : iv w) {p : Nat} {c : Int32} (hc : -9 ≤ c.toInt ∧ c.toInt ≤ 9) : iv (wo_i (wo_i (wo_i (wo_i w 4 p c) 0 8 1) 62 p c) 58 13 0) := by
  generalize hu : wo_i (wo_i (wo_i (wo_i w 4 p c) 0 8 1) 62 p c) 58 13 0 = u
  have f1 : ∀ b, b ≠ 0 → b ≠ 4 → b ≠ 58 → b ≠ 62 → u.1 b = w.1 b := fun c x y z t => by rw [← hu, wo_i_ne c z, wo_i_ne c t, wo_i_ne c x, wo_i_ne c y]
  have f2 : u.2 = w.2 := by rw [← hu]; rfl
  have e4 : ∀ j, u.1 4 j = if j = p then c else w.1 4 j := fun j => by
    rw [← hu, wo_i_ne 4 (by decide), wo_i_ne 4 (by decide), wo_i_ne 4 (by decide)]
    by_cases e : j = p
    · rw [if_pos e, e, wo_i_eq]
    · rw [if_neg e, wo_i_nk (by omega)]
  have e62 : ∀ j, u.1 62 j = if j = p then c else w.1 62 j := fun j => by
    rw [← hu, wo_i_ne 62 (by decide)]
    by_cases e : j = p
    · rw [if_pos e, e, wo_i_eq]
    · rw [if_neg e, wo_i_nk (by omega), wo_i_ne 62 (by decide), wo_i_ne 62 (by decide)]
  have g0 : ∀ j, j ≠ 8 → u.1 0 j = w.1 0 j := fun j hj => by rw [← hu, wo_i_ne 0 (by decide), wo_i_ne 0 (by decide), wo_i_nk (by omega), wo_i_ne 0 (by decide)]
  have g8 : u.1 0 8 = 1 := by rw [← hu, wo_i_ne 0 (by decide), wo_i_ne 0 (by decide), wo_i_eq]
  have k0 : ∀ j, j ≠ 13 → u.1 58 j = w.1 58 j := fun j hj => by rw [← hu, wo_i_nk (by omega), wo_i_ne 58 (by decide), wo_i_ne 58 (by decide), wo_i_ne 58 (by decide)]
  have k13 : u.1 58 13 = 0 := by rw [← hu, wo_i_eq]
  have hoc : gc_ok u := gc_ok_of (w := w) (f1 1 (by decide) (by decide) (by decide) (by decide)) (f1 2 (by decide) (by decide) (by decide) (by decide)) (f1 6 (by decide) (by decide) (by decide) (by decide)) (f1 7 (by decide) (by decide) (by decide) (by decide)) (fun v hv => by
    rw [e4 v]
    split
    · exact hc
    · exact h.1.1.1.2.2.2 v hv) (fun q hq => by
    rw [f1 3 (by decide) (by decide) (by decide) (by decide)]
    exact gc_held h.1.1 q hq) h.1.1
  have hom : gm_ok u := gm_ok_of (w := w) (k0 5 (by decide)) (f1 59 (by decide) (by decide) (by decide) (by decide)) (f1 60 (by decide) (by decide) (by decide) (by decide)) (fun v hv => by
    rw [e62 v]
    split
    · exact hc
    · exact h.2.1.1.1.2.2.2 v hv) (fun q hq => by
    rw [f1 61 (by decide) (by decide) (by decide) (by decide)]
    exact gm_held h.2.1.1 q hq) h.2.1.1
  have nm : gd_m (gc_g u) = gd_m (gc_g w) := by
    have : (gc_g u).1 = (gc_g w).1 := by
      show (u.1 1 6).toInt.toNat = (w.1 1 6).toInt.toNat
      rw [f1 1 (by decide) (by decide) (by decide) (by decide)]
    unfold gd_m; rw [this]
  have nm2 : gd_m (gm_g u) = gd_m (gm_g w) := by
    have : (gm_g u).1 = (gm_g w).1 := by
      show (u.1 58 5).toInt.toNat = (w.1 58 5).toInt.toNat
      rw [k0 5 (by decide)]
    unfold gd_m; rw [this]
  have l4 := h.2.2.2.2.2.2.1
  have l5 := h.2.2.2.2.2.2.2.1
  refine iv_mk h (ci_stale hoc (g0 6 (by decide)) g8 nm h.1) (mi_stale hom (k0 6 (by decide)) k13 nm2 h.2.1) (fun b x y z t s r => f1 b x z t r) f2 (g0 6 (by decide)) (g0 7 (by decide)) (k0 5 (by decide)) (k0 6 (by decide)) (k0 21 (by decide)) ?_ (funext fun j => ?_)
  · rw [f1 3 (by decide) (by decide) (by decide) (by decide), f1 61 (by decide) (by decide) (by decide) (by decide)]; exact l4
  · rw [e4, e62, l5]
section
variable {K : jj_K} {w : wo_T}
theorem s_hold (h : iv w) (a b : Int32) : e_i K mX6_hold mX7_hold [.ref 0, .int a, .int b] [.ref 58, .int a, .int b] w := by
  have hg := iv_g h
  have hn := gc_n h.1.1
  apply en_X6_hold
  refine c_hasPoint h.1.1 a (fun p hp e => ⟨fun q => absurd q (by decide), fun _ => c_isWithin b 0 3 ?_⟩) (fun hno => ⟨fun _ => ?_, fun q => absurd rfl q⟩)
  · cases hb : isIn b 0 3 with
    | false =>
      refine ⟨fun q => absurd rfl q, fun _ => ?_⟩
      apply en_X7_hold
      refine m_isPoint h.2.1.1 a (fun p' hp' e' => ⟨fun q => absurd q (by decide), fun _ => m_isIn b 0 3 ?_⟩) (fun _ => ⟨fun _ => ⟨rfl, h⟩, fun q => absurd rfl q⟩)
      rw [hb]
      exact ⟨fun q => absurd rfl q, fun _ => ⟨rfl, h⟩⟩
    | true =>
      have ez : (3 : Int32) = nI 4 - 1 := by decide
      obtain ⟨bn, hbn, ebn⟩ := isIn_nat (n := 4) (by decide) (by rw [← ez]; exact hb)
      subst e; subst ebn
      rw [nI_clamp (by omega)]
      refine ⟨fun _ => ⟨nn_inn (by omega) (by decide), fun x ex => ⟨nn_inn (by omega) (by decide), ?_⟩⟩, fun q => absurd q (by decide)⟩
      subst ex
      have hmi : mi (wo_i (wo_i w 3 p (nI bn)) 0 8 1) := mi_fr (fun b hb => by rw [wo_i_ne b (by omega), wo_i_ne b (by omega)]) (fun b hb => rfl) h.2.1
      have hgu : gm_g (wo_i (wo_i w 3 p (nI bn)) 0 8 1) = gm_g w := gm_g_eq ⟨by rw [wo_i_ne 58 (by decide), wo_i_ne 58 (by decide)], by rw [wo_i_ne 59 (by decide), wo_i_ne 59 (by decide)], by rw [wo_i_ne 60 (by decide), wo_i_ne 60 (by decide)], by rw [wo_i_ne 61 (by decide), wo_i_ne 61 (by decide)], by rw [wo_i_ne 62 (by decide), wo_i_ne 62 (by decide)]⟩
      apply en_X7_hold
      refine m_isPoint hmi.1 (nI p) (fun p' hp' e' => ⟨fun q => absurd q (by decide), fun _ => m_isIn (nI bn) 0 3 ?_⟩) (fun hno => absurd rfl (hno p (by rw [hgu, hg]; exact hp)))
      rw [hb, nI_clamp (by omega)]
      refine ⟨fun _ => ⟨nn_inn (by omega) (by decide), fun x2 ex2 => ⟨nn_inn (by omega) (by decide), ?_, iv_held h hbn⟩⟩, fun q => absurd q (by decide)⟩
      rw [ex2, wo_i_ne 61 (by decide), wo_i_ne 61 (by decide), ← h.2.2.2.2.2.2.1]
  · apply en_X7_hold
    exact m_isPoint h.2.1.1 a (fun p' hp' e' => absurd e' (hno p' (by rw [← hg]; exact hp'))) (fun _ => ⟨fun _ => ⟨rfl, h⟩, fun q => absurd rfl q⟩)
theorem s_load (h : iv w) (a b c : Int32) : e_i K mX6_load mX7_load [.ref 0, .int a, .int b, .int c] [.ref 58, .int a, .int b, .int c] w := by
  have hg := iv_g h
  have hn := gc_n h.1.1
  apply en_X6_load
  refine c_hasPoint h.1.1 a (fun p hp e => ⟨fun q => absurd q (by decide), fun _ => c_isWithin b 0 1 ?_⟩) (fun hno => ⟨fun _ => ?_, fun q => absurd rfl q⟩)
  · cases hb : isIn b 0 1 with
    | false =>
      refine ⟨fun _ => ?_, fun q => absurd rfl q⟩
      apply en_X7_load
      refine m_isPoint h.2.1.1 a (fun p' hp' e' => ⟨fun q => absurd q (by decide), fun _ => m_isIn b 0 1 ?_⟩) (fun _ => ⟨fun _ => ⟨rfl, h⟩, fun q => absurd rfl q⟩)
      rw [hb]
      exact ⟨fun _ => ⟨rfl, h⟩, fun q => absurd rfl q⟩
    | true =>
      refine ⟨fun q => absurd q (by decide), fun _ => c_isLoad c.toInt64 ?_⟩
      rw [isLd_in]
      cases hc' : isIn c (-9) 9 with
      | false =>
        refine ⟨fun q => absurd rfl q, fun _ => ?_⟩
        apply en_X7_load
        refine m_isPoint h.2.1.1 a (fun p' hp' e' => ⟨fun q => absurd q (by decide), fun _ => m_isIn b 0 1 ?_⟩) (fun _ => ⟨fun _ => ⟨rfl, h⟩, fun q => absurd rfl q⟩)
        rw [hb]
        refine ⟨fun q => absurd q (by decide), fun _ => m_isIn c (-9) 9 ?_⟩
        rw [hc']
        exact ⟨fun q => absurd rfl q, fun _ => ⟨rfl, h⟩⟩
      | true =>
        obtain ⟨ax, hax, eb⟩ := isIn_ax hb
        subst eb; subst e
        have hcb := isIn_b (x := -9) (y := 9) (by constructor <;> decide) (by constructor <;> decide) hc'
        rw [nn_two, nI_add, nI_clamp (by omega)]
        refine ⟨fun _ => ⟨nn_inn (by omega) (by decide), fun x ex => ⟨nn_inn (by omega) (by decide), ?_⟩⟩, fun q => absurd q (by decide)⟩
        subst ex
        have hmi : mi (wo_i (wo_i w 4 (2 * p + ax) c) 0 8 1) := mi_fr (fun b hb => by rw [wo_i_ne b (by omega), wo_i_ne b (by omega)]) (fun b hb => rfl) h.2.1
        have hgu : gm_g (wo_i (wo_i w 4 (2 * p + ax) c) 0 8 1) = gm_g w := gm_g_eq ⟨by rw [wo_i_ne 58 (by decide), wo_i_ne 58 (by decide)], by rw [wo_i_ne 59 (by decide), wo_i_ne 59 (by decide)], by rw [wo_i_ne 60 (by decide), wo_i_ne 60 (by decide)], by rw [wo_i_ne 61 (by decide), wo_i_ne 61 (by decide)], by rw [wo_i_ne 62 (by decide), wo_i_ne 62 (by decide)]⟩
        apply en_X7_load
        refine m_isPoint hmi.1 (nI p) (fun p' hp' e' => ⟨fun q => absurd q (by decide), fun _ => m_isIn (nI ax) 0 1 ?_⟩) (fun hno => absurd rfl (hno p (by rw [hgu, hg]; exact hp)))
        rw [hb]
        refine ⟨fun q => absurd q (by decide), fun _ => m_isIn c (-9) 9 ?_⟩
        rw [hc', nn_two, nI_add, nI_clamp (by omega)]
        refine ⟨fun _ => ⟨nn_inn (by omega) (by decide), fun x2 ex2 => ⟨nn_inn (by omega) (by decide), ?_, iv_load h hcb⟩⟩, fun q => absurd q (by decide)⟩
        rw [ex2, wo_i_ne 62 (by decide), wo_i_ne 62 (by decide), ← h.2.2.2.2.2.2.2.1]
  · apply en_X7_load
    exact m_isPoint h.2.1.1 a (fun p' hp' e' => absurd e' (hno p' (by rw [← hg]; exact hp'))) (fun _ => ⟨fun _ => ⟨rfl, h⟩, fun q => absurd rfl q⟩)
end

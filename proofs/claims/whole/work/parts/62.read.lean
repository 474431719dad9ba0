/-! ===== the same answers: read ===== -/
def rdT (f : Nat → Int64) (N t : Nat) : Prop := t ≤ N ∧ (∀ j, j < t → isLd (f j) = true) ∧ (t = N ∨ isLd (f t) = false)
theorem rdT_u {f : Nat → Int64} {N t t' : Nat} (h : rdT f N t) (h' : rdT f N t') : t = t' := by
  obtain ⟨a, b, c⟩ := h
  obtain ⟨a', b', c'⟩ := h'
  rcases Nat.lt_trichotomy t t' with q | q | q
  · rcases c with c | c
    · omega
    · have := b' t q
      rw [c] at this; cases this
  · exact q
  · rcases c' with c' | c'
    · omega
    · have := b t' q
      rw [c'] at this; cases this
theorem isLd_b {x : Int64} (h : isLd x = true) : -9 ≤ x.toInt32.toInt ∧ x.toInt32.toInt ≤ 9 := by
  unfold isLd at h
  simp only [Bool.and_eq_true, decide_eq_true_eq] at h
  obtain ⟨h1, h2⟩ := h
  rw [Int64.lt_iff_toInt_lt] at h1 h2
  have e1 : (-9 : Int64).toInt = -9 := rfl
  have e2 : (9 : Int64).toInt = 9 := rfl
  rw [e1] at h1
  rw [e2] at h2
  rw [nn_l_of x, nn_l_i, nn_i_int ⟨by omega, by omega⟩]
  omega
section
variable {K : jj_K} {w : wo_T}
theorem c_readW {P : Int32 → wo_T → Prop} {s N : Nat} (hs : s < 4) (hN : N ≤ 10) (a1 : Int32) (k : ∀ t u, rdT (w.2 (50 + 2 * s + 1)) N t → (∀ b, b ≠ 0 → b ≠ 4 → u.1 b = w.1 b) → u.2 = w.2 → (∀ j, j ≠ 8 → u.1 0 j = w.1 0 j) → u.1 0 8 = 1 → (∀ j, u.1 4 j = if j < t then (w.2 (50 + 2 * s + 1) j).toInt32 else w.1 4 j) → P (nI t) u) : jj_J K mX6_read (jj_Ri P) 50 [(0, .ref 0), (1, .int a1), (2, .ref (50 + 2 * s)), (3, .int (nI N)), (4, .int 0)] [] w := by
  generalize hf : w.2 (50 + 2 * s + 1) = f at k
  have loop : ∀ d i z, i + d = N → (∀ b, b ≠ 4 → z.1 b = w.1 b) → z.2 = w.2 → (∀ j, z.1 4 j = if j < i then (f j).toInt32 else w.1 4 j) → (∀ j, j < i → isLd (f j) = true) → jj_J K mX6_read (jj_Ri P) 50 [(0, .ref 0), (1, .int a1), (2, .ref (50 + 2 * s)), (3, .int (nI N)), (4, .int (nI i))] [] z := by
    intro d
    induction d with
    | zero =>
      intro i z hi z1 z2 z4 zl
      apply vc_X6_read_50 P a1 s hs
      refine ⟨fun _ => ?_, fun q => absurd (nI_le (by omega) (by omega)) q⟩
      exact k i _ ⟨by omega, zl, Or.inl (by omega)⟩ (fun b p q => by rw [wo_i_ne b p, z1 b q]) z2 (fun j hj => by rw [wo_i_nk (by omega), z1 0 (by decide)]) wo_i_eq (fun j => by rw [wo_i_ne 4 (by decide), z4])
    | succ d ih =>
      intro i z hi z1 z2 z4 zl
      apply vc_X6_read_50 P a1 s hs
      rw [nI_clamp (n := i) (by omega), nn_ad1, z2, hf]
      refine ⟨fun q => absurd q (nI_ge (by omega) (by omega)), fun _ => ⟨nn_inn (by omega) (by decide), c_isLoad (f i) ?_⟩⟩
      cases hl : isLd (f i) with
      | false =>
        refine ⟨fun _ => ?_, fun q => absurd rfl q⟩
        exact k i _ ⟨by omega, zl, Or.inr hl⟩ (fun b p q => by rw [wo_i_ne b p, z1 b q]) z2 (fun j hj => by rw [wo_i_nk (by omega), z1 0 (by decide)]) wo_i_eq (fun j => by rw [wo_i_ne 4 (by decide), z4])
      | true =>
        refine ⟨fun q => absurd q (by decide), fun _ => ⟨nn_inn (by omega) (by decide), nn_inn (by omega) (by decide), ?_⟩⟩
        rw [z2, hf]
        refine ih (i + 1) _ (by omega) (fun b p => by rw [wo_i_ne b p, z1 b p]) z2 (fun j => ?_) (fun j hj => ?_)
        · by_cases e : j = i
          · rw [e, wo_i_eq, if_pos (by omega)]
          · rw [wo_i_nk (by omega), z4]
            by_cases e2 : j < i
            · rw [if_pos e2, if_pos (by omega)]
            · rw [if_neg e2, if_neg (by omega)]
        · by_cases e : j = i
          · rw [e]; exact hl
          · exact zl j (by omega)
  exact loop N 0 w (by omega) (fun _ _ => rfl) rfl (fun j => by rw [if_neg (by omega)]) (fun j hj => by omega)
theorem m_readW {P : Int32 → wo_T → Prop} {s n sz N : Nat} (hs : s < 4) (hn : n ≤ 5) (hsz : sz ≤ 40) (h5 : w.1 58 5 = nI n) (h70 : w.1 70 s = nI sz) (hN : N ≤ sz ∧ N ≤ 2 * n ∧ (N = sz ∨ N = 2 * n)) (k : ∀ t u, rdT (fun j => w.2 71 (40 * s + j)) N t → (∀ b, b ≠ 58 → b ≠ 62 → u.1 b = w.1 b) → u.2 = w.2 → (∀ j, j ≠ 13 → u.1 58 j = w.1 58 j) → u.1 58 13 = 0 → (∀ j, u.1 62 j = if j < t then (w.2 71 (40 * s + j)).toInt32 else w.1 62 j) → P (nI t) u) : jj_J K mX7_read (jj_Ri P) 28 [(0, .ref 58), (1, .int (nI s)), (2, .int 0)] [] w := by
  have loop : ∀ d i z, i + d = N → (∀ b, b ≠ 62 → z.1 b = w.1 b) → z.2 = w.2 → (∀ j, z.1 62 j = if j < i then (w.2 71 (40 * s + j)).toInt32 else w.1 62 j) → (∀ j, j < i → isLd (w.2 71 (40 * s + j)) = true) → jj_J K mX7_read (jj_Ri P) 28 [(0, .ref 58), (1, .int (nI s)), (2, .int (nI i))] [] z := by
    intro d
    induction d with
    | zero =>
      intro i z hi z1 z2 z4 zl
      have kk : P (nI i) (wo_i z 58 13 0) := k i _ ⟨by omega, zl, Or.inl (by omega)⟩ (fun b p q => by rw [wo_i_ne b p, z1 b q]) z2 (fun j hj => by rw [wo_i_nk (by omega), z1 58 (by decide)]) wo_i_eq (fun j => by rw [wo_i_ne 62 (by decide), z4])
      apply vc_X7_read_28
      rw [nI_clamp (n := s) (by omega), z1 70 (by decide), h70, z1 58 (by decide), h5, nn_two]
      refine ⟨nn_inn (by omega) (by decide), fun _ => kk, fun q => ⟨fun _ => kk, fun q2 => ?_⟩⟩
      exfalso
      rcases hN.2.2 with e | e
      · exact q (nI_le (by omega) (by omega))
      · exact q2 (nI_le (by omega) (by omega))
    | succ d ih =>
      intro i z hi z1 z2 z4 zl
      apply vc_X7_read_28
      rw [nI_clamp (n := s) (by omega), z1 70 (by decide), h70, z1 58 (by decide), h5, nn_two, nn_40, nI_clamp (n := i) (by omega), nI_clamp (n := 40 * s + i) (by omega), nn_ad1, z2]
      have kk : isLd (w.2 71 (40 * s + i)) = false → P (nI i) (wo_i z 58 13 0) := fun hl => k i _ ⟨by omega, zl, Or.inr hl⟩ (fun b p q => by rw [wo_i_ne b p, z1 b q]) z2 (fun j hj => by rw [wo_i_nk (by omega), z1 58 (by decide)]) wo_i_eq (fun j => by rw [wo_i_ne 62 (by decide), z4])
      refine ⟨nn_inn (by omega) (by decide), fun q => absurd q (nI_ge (by omega) (by omega)), fun _ => ⟨fun q => absurd q (nI_ge (by omega) (by omega)), fun _ => ⟨nn_inn (by omega) (by decide), fun q => kk (by unfold isLd; simp [q]), fun q1 => ⟨nn_inn (by omega) (by decide), fun q => kk (by unfold isLd; simp [q]), fun q2 => ⟨nn_inn (by omega) (by decide), nn_inn (by omega) (by decide), ?_⟩⟩⟩⟩⟩
      have hl : isLd (w.2 71 (40 * s + i)) = true := by unfold isLd; simp [q1, q2]
      refine ih (i + 1) _ (by omega) (fun b p => by rw [wo_i_ne b p, z1 b p]) z2 (fun j => ?_) (fun j hj => ?_)
      · by_cases e : j = i
        · rw [e, wo_i_eq, if_pos (by omega)]
        · rw [wo_i_nk (by omega), z4]
          by_cases e2 : j < i
          · rw [if_pos e2, if_pos (by omega)]
          · rw [if_neg e2, if_neg (by omega)]
      · by_cases e : j = i
        · rw [e]; exact hl
        · exact zl j (by omega)
  exact loop N 0 w (by omega) (fun _ _ => rfl) rfl (fun j => by rw [if_neg (by omega)]) (fun j hj => by omega)
theorem iv_read {v : wo_T} (h : iv w) {f : Nat → Int64} {t : Nat} (hf : ∀ j, j < t → isLd (f j) = true) (f1 : ∀ b, b ≠ 0 → b ≠ 4 → b ≠ 58 → b ≠ 62 → v.1 b = w.1 b) (f2 : v.2 = w.2) (g0 : ∀ j, j ≠ 8 → v.1 0 j = w.1 0 j) (g8 : v.1 0 8 = 1) (k0 : ∀ j, j ≠ 13 → v.1 58 j = w.1 58 j) (k13 : v.1 58 13 = 0) (e4 : ∀ j, v.1 4 j = if j < t then (f j).toInt32 else w.1 4 j) (e62 : ∀ j, v.1 62 j = if j < t then (f j).toInt32 else w.1 62 j) : iv v := by
  have hoc : gc_ok v := gc_ok_of (w := w) (f1 1 (by decide) (by decide) (by decide) (by decide)) (f1 2 (by decide) (by decide) (by decide) (by decide)) (f1 6 (by decide) (by decide) (by decide) (by decide)) (f1 7 (by decide) (by decide) (by decide) (by decide)) (fun j hj => by
    rw [e4 j]
    split
    · exact isLd_b (hf j (by assumption))
    · exact h.1.1.1.2.2.2 j hj) (fun q hq => by
    rw [f1 3 (by decide) (by decide) (by decide) (by decide)]
    exact gc_held h.1.1 q hq) h.1.1
  have hom : gm_ok v := gm_ok_of (w := w) (k0 5 (by decide)) (f1 59 (by decide) (by decide) (by decide) (by decide)) (f1 60 (by decide) (by decide) (by decide) (by decide)) (fun j hj => by
    rw [e62 j]
    split
    · exact isLd_b (hf j (by assumption))
    · exact h.2.1.1.1.2.2.2 j hj) (fun q hq => by
    rw [f1 61 (by decide) (by decide) (by decide) (by decide)]
    exact gm_held h.2.1.1 q hq) h.2.1.1
  have nm : gd_m (gc_g v) = gd_m (gc_g w) := by
    have : (gc_g v).1 = (gc_g w).1 := by
      show (v.1 1 6).toInt.toNat = (w.1 1 6).toInt.toNat
      rw [f1 1 (by decide) (by decide) (by decide) (by decide)]
    unfold gd_m; rw [this]
  have nm2 : gd_m (gm_g v) = gd_m (gm_g w) := by
    have : (gm_g v).1 = (gm_g w).1 := by
      show (v.1 58 5).toInt.toNat = (w.1 58 5).toInt.toNat
      rw [k0 5 (by decide)]
    unfold gd_m; rw [this]
  have l4 := h.2.2.2.2.2.2.1
  have l5 := h.2.2.2.2.2.2.2.1
  refine iv_mk h (ci_stale hoc (g0 6 (by decide)) g8 nm h.1) (mi_stale hom (k0 6 (by decide)) k13 nm2 h.2.1) (fun b x y z t s r => f1 b x z t r) f2 (g0 6 (by decide)) (g0 7 (by decide)) (k0 5 (by decide)) (k0 6 (by decide)) (k0 21 (by decide)) ?_ (funext fun j => ?_)
  · rw [f1 3 (by decide) (by decide) (by decide) (by decide), f1 61 (by decide) (by decide) (by decide) (by decide)]; exact l4
  · rw [e4, e62, l5]
theorem s_read (h : iv w) (a : Int32) : e_i K mX6_read mX7_read [.ref 0, .int a] [.ref 58, .int a] w := by
  have l9 := h.2.2.2.2.2.2.2.2.2.2.2
  have l1 := h.2.2.2.1
  have hp1 := h.1.1.2.1
  have hn := gc_n h.1.1
  apply en_X6_read
  refine c_isSheet a (fun s hs e => ⟨fun _ => ⟨?_, ?_⟩, fun q => absurd q (by decide)⟩) (fun hno => ⟨fun q => absurd rfl q, fun _ => ?_⟩)
  · rw [e]; exact nn_inn hs (by decide)
  · subst e
    have v4 : vp_in (nI s) 4 := nn_inn hs (by decide)
    rw [nI_clamp (by omega)]
    obtain ⟨hst, hsz, ⟨n, hn', hnz⟩, hit⟩ := l9 s hs
    rcases hst with ⟨c1, c2, c3⟩ | ⟨c1, c2⟩
    · rw [c1]
      refine ⟨fun _ x ex => ?_, fun q => absurd rfl q⟩
      have hne : ¬ w.1 69 s = -1 := by
        rcases c3 with q | q <;> rw [q] <;> decide
      generalize hg1 : (gc_g w).1 = g1 at *
      obtain ⟨N, hN1, hN2⟩ : ∃ N : Nat, x = nI N ∧ N ≤ n ∧ N ≤ 2 * g1 ∧ (N = n ∨ N = 2 * g1) := by
        rw [hp1, nn_two, hsz, hnz] at ex
        rcases Nat.lt_or_ge (2 * g1) n with q | q
        · rw [if_pos (nI_lt q (by omega))] at ex
          exact ⟨2 * g1, ex, by omega, by omega, Or.inr rfl⟩
        · rw [if_neg (fun z => by have := (nI_ltI (by omega) (by omega)).mp z; omega)] at ex
          exact ⟨n, ex, by omega, by omega, Or.inl rfl⟩
      rw [hN1]
      refine c_readW hs (by omega) (nI s) (fun t u hT f1 f2 g0 g8 e4 => ?_)
      apply en_X7_read
      refine m_isSheet (nI s) (fun s' hs' e' => ⟨fun _ => ⟨v4, ?_⟩, fun q => absurd q (by decide)⟩) (fun hno => absurd rfl (hno s hs))
      rw [nI_clamp (by omega), f1 69 (by decide) (by decide)]
      refine ⟨fun _ => ?_, fun q => absurd q hne⟩
      refine m_readW (n := g1) (sz := n) (N := N) hs hn hn' (by rw [f1 58 (by decide) (by decide), ← l1]; exact hp1) (by rw [f1 70 (by decide) (by decide)]; exact hnz) hN2 (fun t' v hT' q1 q2 r0 r13 e62 => ?_)
      have hT2 : rdT (w.2 (50 + 2 * s + 1)) N t' := by
        obtain ⟨z1, z2, z3⟩ := hT'
        rw [f2] at z2 z3
        have hit' : ∀ i, i < 40 → w.2 (50 + 2 * s + 1) i = w.2 71 (40 * s + i) := fun i hi => by
          rw [← hit i hi, show 50 + 2 * s + 1 = 51 + 2 * s by omega]
        refine ⟨z1, fun j hj => by rw [hit' j (by omega)]; exact z2 j hj, ?_⟩
        rcases Nat.lt_or_ge t' 40 with z | z
        · rw [hit' t' z]; exact z3
        · exact Or.inl (by omega)
      have et := rdT_u hT hT2
      subst et
      refine ⟨rfl, iv_read h (f := w.2 (50 + 2 * s + 1)) hT.2.1 (fun b x y z t => by rw [q1 b z t, f1 b x y]) (by rw [q2, f2]) (fun j hj => by rw [q1 0 (by decide) (by decide), g0 j hj]) (by rw [q1 0 (by decide) (by decide), g8]) (fun j hj => by rw [r0 j hj, f1 58 (by decide) (by decide)]) r13 (fun j => by rw [q1 4 (by decide) (by decide), e4]) (fun j => ?_)⟩
      rw [e62, f2, f1 62 (by decide) (by decide)]
      by_cases z : j < t
      · rw [if_pos z, if_pos z, ← hit j (by have := hT.1; omega), show 50 + 2 * s + 1 = 51 + 2 * s by omega]
      · rw [if_neg z, if_neg z]
    · rw [c1]
      refine ⟨fun q => absurd q (by decide), fun _ => c_found 1 ?_⟩
      apply en_X7_read
      refine m_isSheet (nI s) (fun s' hs' e' => ⟨fun _ => ⟨v4, ?_⟩, fun q => absurd q (by decide)⟩) (fun hno => absurd rfl (hno s hs))
      rw [nI_clamp (by omega), wo_i_ne 69 (by decide), c2]
      exact ⟨fun q => absurd rfl q, fun _ => m_meets 1 ⟨rfl, iv_find h 1⟩⟩
  · apply en_X7_read
    exact m_isSheet a (fun s hs e => absurd e (hno s hs)) (fun _ => ⟨fun q => absurd rfl q, fun _ => ⟨rfl, h⟩⟩)
end

/-! ===== the same answers: copy ===== -/
theorem nn_nat {a : Int32} (h : ¬ a < 0) : ∃ i : Nat, i < 2147483648 ∧ a = nI i := by
  have h1 : ¬ a.toInt < 0 := fun q => h (by rw [Int32.lt_iff_toInt_lt]; exact q)
  have h2 : a.toInt < 2147483648 := Int32.toInt_lt a
  refine ⟨a.toInt.toNat, by omega, ?_⟩
  rw [nn_nI, Int.toNat_of_nonneg (by omega)]
  exact nn_i_of a
theorem nn_nsub {a b : Nat} (h : b ≤ a) : nI a - nI b = nI (a - b) := by
  rw [nn_nI, nn_nI, nn_i_sub, nn_nI, Int.ofNat_sub h]
theorem nn_nl {a : Nat} (h : a < 2147483648) : (nI a).toInt64 = nn_l a := by
  rw [nn_nI, nn_i_l ⟨by omega, by omega⟩]
def hasI (z : Nat) (a n : Int32) : Prop := ∃ i m : Nat, a = nI i ∧ n = nI m ∧ i + m ≤ z
section
variable {K : jj_K} {w : wo_T}
theorem c_hasItems {P : Int32 → wo_T → Prop} {s z : Nat} (hs : s < 4) (hz : z ≤ 40) (h3 : w.1 (50 + 2 * s) 3 = nI z) (a n : Int32) (k1 : hasI z a n → P 1 w) (k0 : ¬ hasI z a n → P 0 w) : jj_Ci K mX4_hasItems [.ref (50 + 2 * s), .int a, .int n] w P := by
  apply en_X4_hasItems P s hs
  rw [h3]
  refine ⟨fun q => k0 ?_, fun q1 => ⟨fun q => k0 ?_, fun q2 => ⟨fun q => k0 ?_, fun q3 => ⟨fun q => k0 ?_, fun q4 => k1 ?_⟩⟩⟩⟩
  · rintro ⟨i, m, e1, e2, e3⟩
    rw [e1] at q
    exact nI_pos (by omega) q
  · rintro ⟨i, m, e1, e2, e3⟩
    rw [e2] at q
    exact nI_pos (by omega) q
  · rintro ⟨i, m, e1, e2, e3⟩
    rw [e1] at q
    have := (nI_ltI (by omega) (by omega)).mp q
    omega
  · rintro ⟨i, m, e1, e2, e3⟩
    rw [e1, e2, nn_nsub (by omega)] at q
    have := (nI_ltI (by omega) (by omega)).mp q
    omega
  · obtain ⟨i, hi, e1⟩ := nn_nat q1
    obtain ⟨m, hm, e2⟩ := nn_nat q2
    have h1 : i ≤ z := by
      rcases Nat.lt_or_ge z i with x | x
      · exact absurd (by rw [e1]; exact nI_lt x (by omega)) q3
      · exact x
    refine ⟨i, m, e1, e2, ?_⟩
    rcases Nat.lt_or_ge (z - i) m with x | x
    · exact absurd (by rw [e1, e2, nn_nsub h1]; exact nI_lt x (by omega)) q4
    · omega
theorem m_copyW {P : Int32 → wo_T → Prop} {s t i j m : Nat} (hs : s < 4) (ht : t < 4) (hi : i + m ≤ 40) (hj : j + m ≤ 40) (k : ∀ u, u.1 = w.1 → (∀ b, b ≠ 71 → b ≠ 72 → u.2 b = w.2 b) → (∀ q, u.2 71 q = if 40 * t + j ≤ q ∧ q < 40 * t + j + m then w.2 71 (40 * s + i + (q - (40 * t + j))) else w.2 71 q) → P 1 u) : jj_J K mX7_copy (jj_Ri P) 122 [(0, .ref 58), (1, .int (nI s)), (2, .int (nI i)), (3, .int (nI t)), (4, .int (nI j)), (5, .int (nI m)), (6, .int 0)] [] w := by
  have loop2 : ∀ d e z, e + d = m → z.1 = w.1 → (∀ b, b ≠ 71 → b ≠ 72 → z.2 b = w.2 b) → (∀ q, q < m → z.2 72 q = w.2 71 (40 * s + i + q)) → (∀ q, z.2 71 q = if 40 * t + j ≤ q ∧ q < 40 * t + j + e then w.2 71 (40 * s + i + (q - (40 * t + j))) else w.2 71 q) → jj_J K mX7_copy (jj_Ri P) 159 [(0, .ref 58), (1, .int (nI s)), (2, .int (nI i)), (3, .int (nI t)), (4, .int (nI j)), (5, .int (nI m)), (6, .int (nI e))] [] z := by
    intro d
    induction d with
    | zero =>
      intro e z he z1 z2 z3 z4
      have e0 : e = m := by omega
      subst e0
      apply vc_X7_copy_159
      exact ⟨fun _ => k z z1 z2 z4, fun q => absurd (nI_le (by omega) (by omega)) q⟩
    | succ d ih =>
      intro e z he z1 z2 z3 z4
      apply vc_X7_copy_159
      rw [nn_40, nI_add, nn_ad1, nI_clamp (n := e) (by omega), nI_clamp (n := 40 * t + j + e) (by omega), z3 e (by omega)]
      refine ⟨fun q => absurd q (nI_ge (by omega) (by omega)), fun _ => ⟨nn_inn (by omega) (by decide), nn_inn (by omega) (by decide), ?_⟩⟩
      refine ih (e + 1) _ (by omega) z1 (fun b p q => by rw [wo_l_ne b p, z2 b p q]) (fun q hq => by rw [wo_l_ne 72 (by decide), z3 q hq]) (fun q => ?_)
      by_cases x : q = 40 * t + j + e
      · rw [x, wo_l_eq, if_pos ⟨by omega, by omega⟩, Nat.add_sub_cancel_left]
      · rw [wo_l_nk (by omega), z4]
        by_cases y : 40 * t + j ≤ q ∧ q < 40 * t + j + e
        · rw [if_pos y, if_pos ⟨y.1, by omega⟩]
        · rw [if_neg y, if_neg (fun y2 => y ⟨y2.1, by omega⟩)]
  have loop1 : ∀ d e z, e + d = m → z.1 = w.1 → (∀ b, b ≠ 72 → z.2 b = w.2 b) → (∀ q, q < e → z.2 72 q = w.2 71 (40 * s + i + q)) → jj_J K mX7_copy (jj_Ri P) 122 [(0, .ref 58), (1, .int (nI s)), (2, .int (nI i)), (3, .int (nI t)), (4, .int (nI j)), (5, .int (nI m)), (6, .int (nI e))] [] z := by
    intro d
    induction d with
    | zero =>
      intro e z he z1 z2 z3
      apply vc_X7_copy_122
      refine ⟨fun _ => loop2 m 0 z (by omega) z1 (fun b _ q => z2 b q) (fun q hq => z3 q (by omega)) (fun q => ?_), fun q => absurd (nI_le (by omega) (by omega)) q⟩
      rw [if_neg (by omega), z2 71 (by decide)]
    | succ d ih =>
      intro e z he z1 z2 z3
      apply vc_X7_copy_122
      rw [nn_40, nI_add, nn_ad1, nI_clamp (n := e) (by omega), nI_clamp (n := 40 * s + i + e) (by omega), z2 71 (by decide)]
      refine ⟨fun q => absurd q (nI_ge (by omega) (by omega)), fun _ => ⟨nn_inn (by omega) (by decide), nn_inn (by omega) (by decide), ?_⟩⟩
      refine ih (e + 1) _ (by omega) z1 (fun b p => by rw [wo_l_ne b p, z2 b p]) (fun q hq => ?_)
      by_cases x : q = e
      · rw [x, wo_l_eq]
      · rw [wo_l_nk (by omega), z3 q (by omega)]
  exact loop1 m 0 w (by omega) rfl (fun _ _ => rfl) (fun q hq => by omega)
theorem m_copyX {P : Int32 → wo_T → Prop} {s t zs zt : Nat} (hs : s < 4) (ht : t < 4) (f1 : ¬ w.1 69 s = -1) (f2 : ¬ w.1 69 t = -1) (ff : w.1 69 s = w.1 69 t) (h7 : w.1 70 s = nI zs) (h7' : w.1 70 t = nI zt) (z1 : zs ≤ 40) (z2 : zt ≤ 40) (a b c : Int32) (k1 : ∀ i j m : Nat, a = nI i → b = nI j → c = nI m → i + m ≤ zs → j + m ≤ zt → ∀ u, u.1 = w.1 → (∀ b, b ≠ 71 → b ≠ 72 → u.2 b = w.2 b) → (∀ q, u.2 71 q = if 40 * t + j ≤ q ∧ q < 40 * t + j + m then w.2 71 (40 * s + i + (q - (40 * t + j))) else w.2 71 q) → P 1 u) (k0 : ¬ (hasI zs a c ∧ hasI zt b c) → P ((-10) - 2) (wo_i w 58 21 2)) : jj_Ci K mX7_copy [.ref 58, .int (nI s), .int a, .int (nI t), .int b, .int c] w P := by
  have v4 : vp_in (nI s) 4 := nn_inn hs (by decide)
  have v4' : vp_in (nI t) 4 := nn_inn ht (by decide)
  apply en_X7_copy
  refine m_isSheet (nI s) (fun _ _ _ => ⟨fun q => absurd q (by decide), fun _ => ?_⟩) (fun hno => absurd rfl (hno s hs))
  refine m_isSheet (nI t) (fun _ _ _ => ⟨fun _ => ?_, fun q => absurd q (by decide)⟩) (fun hno => absurd rfl (hno t ht))
  rw [nI_clamp (n := s) (by omega), nI_clamp (n := t) (by omega), h7, h7']
  refine ⟨v4, fun q => absurd q f1, fun _ => ⟨v4', fun _ => ⟨v4, v4', fun _ => ?_, fun q => absurd ff q⟩, fun q => absurd q f2⟩⟩
  refine ⟨fun q => m_meets 2 (k0 ?_), fun q1 => ⟨fun q => m_meets 2 (k0 ?_), fun q2 => ⟨fun q => m_meets 2 (k0 ?_), fun q3 => ⟨v4, fun q => m_meets 2 (k0 ?_), fun q4 => ⟨v4', fun q5 => ?_, fun q => m_meets 2 (k0 ?_)⟩⟩⟩⟩⟩
  · rintro ⟨⟨i, m, e1, e2, e3⟩, -⟩
    rw [e1] at q
    exact nI_pos (by omega) q
  · rintro ⟨-, ⟨i, m, e1, e2, e3⟩⟩
    rw [e1] at q
    exact nI_pos (by omega) q
  · rintro ⟨⟨i, m, e1, e2, e3⟩, -⟩
    rw [e2] at q
    exact nI_pos (by omega) q
  · rintro ⟨⟨i, m, e1, e2, e3⟩, -⟩
    rw [e1, e2, nn_nl (by omega), nn_nl (by omega), nn_nl (by omega), nn_l_add, nn_l_lt ⟨by omega, by omega⟩ ⟨by omega, by omega⟩] at q
    omega
  · obtain ⟨i, hi, e1⟩ := nn_nat q1
    obtain ⟨j, hj, e2⟩ := nn_nat q2
    obtain ⟨m, hm, e3⟩ := nn_nat q3
    rw [e1, e3, nn_nl (by omega), nn_nl (by omega), nn_nl (by omega), nn_l_add, nn_l_lt ⟨by omega, by omega⟩ ⟨by omega, by omega⟩] at q4
    rw [e2, e3, nn_nl (by omega), nn_nl (by omega), nn_nl (by omega), nn_l_add, nn_l_le ⟨by omega, by omega⟩ ⟨by omega, by omega⟩] at q5
    rw [e1, e2, e3]
    exact m_copyW hs ht (by omega) (by omega) (k1 i j m e1 e2 e3 (by omega) (by omega))
  · rintro ⟨-, ⟨i, m, e1, e2, e3⟩⟩
    rw [e1, e2, nn_nl (by omega), nn_nl (by omega), nn_nl (by omega), nn_l_add, nn_l_le ⟨by omega, by omega⟩ ⟨by omega, by omega⟩] at q
    omega
theorem iv_copy {s t i j m : Nat} {v : wo_T} (h : iv w) (hs : s < 4) (ht : t < 4) (hi : i + m ≤ 40) (hj : j + m ≤ 40) (v1 : v.1 = w.1) (v2 : ∀ b, b ≠ 71 → b ≠ 72 → v.2 b = (wo_cp w (50 + 2 * s + 1) i (50 + 2 * t + 1) j m).2 b) (v3 : ∀ q, v.2 71 q = if 40 * t + j ≤ q ∧ q < 40 * t + j + m then w.2 71 (40 * s + i + (q - (40 * t + j))) else w.2 71 q) : iv v := by
  have l9 := h.2.2.2.2.2.2.2.2.2.2.2
  have cn : ∀ b, b ≠ 50 + 2 * t + 1 → (wo_cp w (50 + 2 * s + 1) i (50 + 2 * t + 1) j m).2 b = w.2 b := fun b hb => by
    funext q
    show (if b = 50 + 2 * t + 1 then _ else _) = _
    rw [if_neg hb]
  have ce : ∀ q, (wo_cp w (50 + 2 * s + 1) i (50 + 2 * t + 1) j m).2 (50 + 2 * t + 1) q = if j ≤ q ∧ q < j + m then w.2 (50 + 2 * s + 1) (i + (q - j)) else w.2 (50 + 2 * t + 1) q := fun q => by
    show (if 50 + 2 * t + 1 = 50 + 2 * t + 1 then va_cpy _ _ _ _ _ q else _) = _
    rw [if_pos rfl]
    rfl
  refine iv_sh h (fun b _ _ => by rw [v1]) (fun b hb => by rw [v2 b (by omega) (by omega), cn b (by omega)]) (fun b _ _ => by rw [v1]) (fun b x y => by rw [v2 b (by omega) (by omega), cn b (by omega)]) (fun j _ => by rw [v1]) (fun j _ => by rw [v1]) (by rw [v1]; exact h.2.2.2.2.2.2.2.2.2.2.1) (fun r hr => ?_)
  obtain ⟨o1, o2, o3, o4⟩ := l9 r hr
  unfold lk_s
  rw [v1]
  refine ⟨o1, o2, o3, fun q hq => ?_⟩
  rw [v3, v2 _ (by omega) (by omega)]
  by_cases e : r = t
  · subst e
    rw [show 51 + 2 * r = 50 + 2 * r + 1 by omega, ce]
    by_cases x : j ≤ q ∧ q < j + m
    · rw [if_pos x, if_pos ⟨by omega, by omega⟩, show 50 + 2 * s + 1 = 51 + 2 * s by omega, (l9 s hs).2.2.2 _ (by omega), show 40 * r + q - (40 * r + j) = q - j by omega, Nat.add_assoc]
    · rw [if_neg x, if_neg (by omega), show 50 + 2 * r + 1 = 51 + 2 * r by omega, o4 q hq]
  · rw [cn _ (by omega), if_neg (by omega), o4 q hq]
theorem s_copy (h : iv w) (a b c d f : Int32) : e_i K mX6_copy mX7_copy [.ref 0, .int a, .int b, .int c, .int d, .int f] [.ref 58, .int a, .int b, .int c, .int d, .int f] w := by
  have l9 := h.2.2.2.2.2.2.2.2.2.2.2
  apply en_X6_copy
  refine c_isSheet a (fun s hs e => ⟨fun q => absurd q (by decide), fun _ => ?_⟩) (fun hno => ⟨fun _ => ?_, fun q => absurd rfl q⟩)
  · subst e
    refine c_isSheet c (fun t ht e => ⟨fun _ => ?_, fun q => absurd q (by decide)⟩) (fun hno => ⟨fun q => absurd rfl q, fun _ => ?_⟩)
    · subst e
      have v4 : vp_in (nI s) 4 := nn_inn hs (by decide)
      have v4' : vp_in (nI t) 4 := nn_inn ht (by decide)
      rw [nI_clamp (n := s) (by omega), nI_clamp (n := t) (by omega)]
      obtain ⟨hst, hsz, ⟨zs, hzs, hz7⟩, -⟩ := l9 s hs
      obtain ⟨hst', hsz', ⟨zt, hzt, hz7'⟩, -⟩ := l9 t ht
      have nul : (w.1 69 s = -1 ∨ w.1 69 t = -1) → jj_Ci K mX7_copy [.ref 58, .int (nI s), .int b, .int (nI t), .int d, .int f] (wo_i w 0 7 1) (fun v' u' => v' = (-10) - 1 ∧ iv u') := by
        intro q
        apply en_X7_copy
        refine m_isSheet (nI s) (fun _ _ _ => ⟨fun q => absurd q (by decide), fun _ => ?_⟩) (fun hno => absurd rfl (hno s hs))
        refine m_isSheet (nI t) (fun _ _ _ => ⟨fun _ => ?_, fun q => absurd q (by decide)⟩) (fun hno => absurd rfl (hno t ht))
        rw [nI_clamp (n := s) (by omega), nI_clamp (n := t) (by omega), wo_i_ne 69 (by decide)]
        refine ⟨v4, fun _ => m_meets 1 ⟨rfl, iv_find h 1⟩, fun q1 => ⟨v4', fun q2 => ?_, fun _ => m_meets 1 ⟨rfl, iv_find h 1⟩⟩⟩
        rcases q with q | q
        · exact absurd q q1
        · exact absurd q q2
      refine ⟨v4, v4', ?_⟩
      rcases hst with ⟨c1, c2, c3⟩ | ⟨c1, c2⟩
      · rw [c1]
        refine ⟨fun q => absurd rfl q, fun _ => ?_⟩
        rcases hst' with ⟨d1, d2, d3⟩ | ⟨d1, d2⟩
        · rw [d1]
          have n1 : ¬ w.1 69 s = -1 := by
            rcases c3 with q | q <;> rw [q] <;> decide
          have n2 : ¬ w.1 69 t = -1 := by
            rcases d3 with q | q <;> rw [q] <;> decide
          refine ⟨fun _ => ⟨fun ef => ?_, fun ef => c_found 4 ?_⟩, fun q => absurd rfl q⟩
          · rw [← c2, ← d2] at ef
            have bad : ¬ (hasI zs b f ∧ hasI zt d f) → jj_Ci K mX7_copy [.ref 58, .int (nI s), .int b, .int (nI t), .int d, .int f] (wo_i w 0 7 2) (fun v' u' => v' = (-10) - 2 ∧ iv u') := by
              intro q
              exact m_copyX hs ht (by rw [wo_i_ne 69 (by decide)]; exact n1) (by rw [wo_i_ne 69 (by decide)]; exact n2) (by rw [wo_i_ne 69 (by decide)]; exact ef) (by rw [wo_i_ne 70 (by decide)]; exact hz7) (by rw [wo_i_ne 70 (by decide)]; exact hz7') hzs hzt b d f (fun i j m e1 e2 e3 e4 e5 => absurd ⟨⟨i, m, e1, e3, e4⟩, ⟨j, m, e2, e3, e5⟩⟩ q) (fun _ => ⟨rfl, iv_find h 2⟩)
            refine c_hasItems hs hzs (by rw [hsz]; exact hz7) b f (fun g1 => ⟨fun q => absurd q (by decide), fun _ => ?_⟩) (fun g1 => ⟨fun _ => c_found 2 (bad (fun q => g1 q.1)), fun q => absurd rfl q⟩)
            refine c_hasItems ht hzt (by rw [hsz']; exact hz7') d f (fun g2 => ⟨fun _ => ?_, fun q => absurd q (by decide)⟩) (fun g2 => ⟨fun q => absurd rfl q, fun _ => c_found 2 (bad (fun q => g2 q.2))⟩)
            obtain ⟨i, m, e1, e2, e3⟩ := g1
            obtain ⟨j, m', e4, e5, e6⟩ := g2
            have em : m' = m := (nI_eq (by omega) (by omega)).mp (e5.symm.trans e2)
            subst em
            subst e1; subst e2; subst e4
            rw [nI_clamp (n := i) (by omega), nI_clamp (n := j) (by omega), nI_clamp (n := m') (by omega)]
            refine ⟨nI_pos (by omega), nI_pos (by omega), nI_pos (by omega), by omega, by omega, ?_⟩
            have z71 : (wo_cp w (50 + 2 * s + 1) i (50 + 2 * t + 1) j m').2 71 = w.2 71 := by
              funext q
              show (if 71 = 50 + 2 * t + 1 then _ else _) = _
              rw [if_neg (by omega)]
            have z1 : (wo_cp w (50 + 2 * s + 1) i (50 + 2 * t + 1) j m').1 = w.1 := rfl
            have fin : ∀ v : wo_T, v.1 = w.1 → (∀ b, b ≠ 71 → b ≠ 72 → v.2 b = (wo_cp w (50 + 2 * s + 1) i (50 + 2 * t + 1) j m').2 b) → (∀ q, v.2 71 q = if 40 * t + j ≤ q ∧ q < 40 * t + j + m' then w.2 71 (40 * s + i + (q - (40 * t + j))) else w.2 71 q) → iv v := fun v x1 x2 x3 => iv_copy h hs ht (by omega) (by omega) x1 x2 x3
            generalize wo_cp w (50 + 2 * s + 1) i (50 + 2 * t + 1) j m' = u0 at z71 z1 fin ⊢
            refine m_copyX (w := u0) hs ht (by rw [z1]; exact n1) (by rw [z1]; exact n2) (by rw [z1]; exact ef) (by rw [z1]; exact hz7) (by rw [z1]; exact hz7') hzs hzt (nI i) (nI j) (nI m') (fun i' j' m2 x1 x2 x3 x4 x5 u p1 p2 p3 => ⟨rfl, ?_⟩) (fun q => absurd ⟨⟨i, m', rfl, rfl, e3⟩, ⟨j, m', rfl, rfl, e6⟩⟩ q)
            have y1 : i' = i := (nI_eq (by omega) (by omega)).mp x1.symm
            have y2 : j' = j := (nI_eq (by omega) (by omega)).mp x2.symm
            have y3 : m2 = m' := (nI_eq (by omega) (by omega)).mp x3.symm
            subst y1; subst y2; subst y3
            exact fin u (p1.trans z1) p2 (fun q => by rw [p3, z71])
          · rw [← c2, ← d2] at ef
            apply en_X7_copy
            refine m_isSheet (nI s) (fun _ _ _ => ⟨fun q => absurd q (by decide), fun _ => ?_⟩) (fun hno => absurd rfl (hno s hs))
            refine m_isSheet (nI t) (fun _ _ _ => ⟨fun _ => ?_, fun q => absurd q (by decide)⟩) (fun hno => absurd rfl (hno t ht))
            rw [nI_clamp (n := s) (by omega), nI_clamp (n := t) (by omega), wo_i_ne 69 (by decide)]
            exact ⟨v4, fun q => absurd q n1, fun _ => ⟨v4', fun _ => ⟨v4, v4', fun q => absurd q ef, fun _ => m_meets 4 ⟨rfl, iv_find h 4⟩⟩, fun q => absurd q n2⟩⟩
        · rw [d1]
          exact ⟨fun q => absurd q (by decide), fun _ => c_found 1 (nul (Or.inr d2))⟩
      · rw [c1]
        exact ⟨fun _ => c_found 1 (nul (Or.inl c2)), fun q => absurd q (by decide)⟩
    · apply en_X7_copy
      refine m_isSheet (nI s) (fun _ _ _ => ⟨fun q => absurd q (by decide), fun _ => ?_⟩) (fun hno => absurd rfl (hno s hs))
      exact m_isSheet c (fun t ht e => absurd e (hno t ht)) (fun _ => ⟨fun q => absurd rfl q, fun _ => ⟨rfl, h⟩⟩)
  · apply en_X7_copy
    exact m_isSheet a (fun s hs e => absurd e (hno s hs)) (fun _ => ⟨fun _ => ⟨rfl, h⟩, fun q => absurd rfl q⟩)
end

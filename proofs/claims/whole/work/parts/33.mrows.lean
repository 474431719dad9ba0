/-! ===== the model: rows put in lowest terms, columns cleared ===== -/
def gl_g (V : Nat → Int) : Nat → Nat
  | 0 => 0
  | n + 1 => Nat.gcd (gl_g V n) (V n).natAbs
theorem gl_dvd (V : Nat → Int) : ∀ n c, c < n → ((gl_g V n : Nat) : Int) ∣ V c
  | 0, c, h => absurd h (Nat.not_lt_zero _)
  | n + 1, c, h => by
    have h1 : (gl_g V (n + 1)) ∣ gl_g V n := Nat.gcd_dvd_left _ _
    have h2 : (gl_g V (n + 1)) ∣ (V n).natAbs := Nat.gcd_dvd_right _ _
    rcases Nat.lt_or_ge c n with h3 | h3
    · exact Int.dvd_trans (Int.natCast_dvd_natCast.mpr h1) (gl_dvd V n c h3)
    · have e : c = n := by omega
      rw [e]
      exact Int.natAbs_dvd_natAbs.mp (by rw [Int.natAbs_natCast]; exact h2)
theorem gl_max (V : Nat → Int) (e : Int) : ∀ n, (∀ c, c < n → e ∣ V c) → e ∣ ((gl_g V n : Nat) : Int)
  | 0, _ => Int.dvd_zero _
  | n + 1, h => by
    have h1 := gl_max V e n (fun c hc => h c (by omega))
    have h2 := h n (by omega)
    have h3 := Int.natAbs_dvd_natAbs.mpr h1
    rw [Int.natAbs_natCast] at h3
    have h4 : e.natAbs ∣ gl_g V (n + 1) := Nat.dvd_gcd h3 (Int.natAbs_dvd_natAbs.mpr h2)
    exact Int.natAbs_dvd_natAbs.mp (by rw [Int.natAbs_natCast]; exact h4)
theorem gl_lt {V : Nat → Int} : ∀ n, (∀ c, c < n → nn_L (V c)) → gl_g V n < 9223372036854775808
  | 0, _ => by simp [gl_g]
  | n + 1, h => by
    have h1 := gl_lt n (fun c hc => h c (by omega))
    have h2 := (h n (by omega)).1
    have h3 := (h n (by omega)).2
    simp only [gl_g]
    rcases Nat.eq_zero_or_pos (V n).natAbs with e | e
    · rw [e, Nat.gcd_zero_right]; exact h1
    · have := Nat.le_of_dvd e (Nat.gcd_dvd_right (gl_g V n) (V n).natAbs)
      omega
def rw_P (V : Nat → Int) : Prop := (∀ c, c < 11 → V c = 0) ∨ ∀ e : Int, (∀ c, c < 11 → e ∣ V c) → e ∣ 1
/-- a row as it stands -/
def rw_V (w : wo_T) (i : Nat) (V : Nat → Int) : Prop := ∀ c, c < 11 → w.2 64 (11 * i + c) = nn_l (V c)
/-- only row i differs -/
def rw_o (w u : wo_T) (i : Nat) : Prop := wo_fr [] [64] w u ∧ ∀ j, j < 11 * i ∨ 11 * i + 11 ≤ j → u.2 64 j = w.2 64 j
theorem rw_o_rf (w : wo_T) (i : Nat) : rw_o w w i := ⟨wo_fr_rf _ _ _, fun _ _ => rfl⟩
theorem rw_o_tr {w u v : wo_T} {i : Nat} (h : rw_o w u i) (h2 : rw_o u v i) : rw_o w v i := ⟨wo_fr_tr h.1 h2.1, fun j hj => (h2.2 j hj).trans (h.2 j hj)⟩
theorem rw_o_V {w u : wo_T} {i k : Nat} {V : Nat → Int} (h : rw_o w u i) (hk : k ≠ i) (hV : rw_V w k V) : rw_V u k V := fun c hc => by
  rw [h.2 _ (by omega)]
  exact hV c hc
theorem nn_el' (a : Nat) : 11 * nI a = nI (11 * a) := pk_mul 11 a
section
variable {K : jj_K} {w : wo_T}
theorem m_lowers {P : wo_T → Prop} {i : Nat} (hi : i < 10) {V : Nat → Int} (hV : rw_V w i V) (hb : ∀ c, c < 11 → nn_L (V c))
    (k : ∀ u d V', rw_o w u i → rw_V u i V' → 0 < d → (∀ c, c < 11 → V c = d * V' c) → rw_P V' → P u) : jj_Cv K mX7_lowers [.ref 58, .int (nI (11 * i))] w P := by
  apply en_X7_lowers
  have hG := gl_lt 11 hb
  have hdv := gl_dvd V 11
  -- the second loop
  have second : jj_J K mX7_lowers (jj_Rv P) 35 [(0, .ref 58), (1, .int (nI (11 * i))), (2, .long (nn_l (gl_g V 11 : Int))), (4, .int 0)] [] w := by
    have hle1 : nn_l (gl_g V 11 : Int) ≤ 1 ↔ (gl_g V 11 : Int) ≤ 1 := nn_l_le (b := 1) (nn_l_nat hG) (by constructor <;> decide)
    rcases Nat.lt_or_ge 1 (gl_g V 11) with h1 | h1
    · have hG0 : (gl_g V 11 : Int) ≠ 0 := by omega
      have hq : ∀ c, c < 11 → V c = (gl_g V 11 : Int) * (V c / (gl_g V 11 : Int)) := fun c hc => (Int.mul_ediv_cancel' (hdv c hc)).symm
      have loop : ∀ d c u, c + d = 11 → rw_o w u i → (∀ c', c' < c → u.2 64 (11 * i + c') = nn_l (V c' / (gl_g V 11 : Int))) → (∀ c', c ≤ c' → c' < 11 → u.2 64 (11 * i + c') = nn_l (V c')) → jj_J K mX7_lowers (jj_Rv P) 35 [(0, .ref 58), (1, .int (nI (11 * i))), (2, .long (nn_l (gl_g V 11 : Int))), (4, .int (nI c))] [] u := by
        intro d
        induction d with
        | zero =>
          intro c u hc ho hlo hhi
          apply vc_X7_lowers_35
          have e : c = 11 := by omega
          subst e
          refine ⟨fun _ => k u (gl_g V 11 : Int) (fun c => V c / (gl_g V 11 : Int)) ho (fun c hc => hlo c hc) (by omega) hq (Or.inr (fun e he => ?_)), fun q => absurd (by decide) q⟩
          have h2 : (gl_g V 11 : Int) * e ∣ (gl_g V 11 : Int) := gl_max V _ 11 (fun c hc => by
            rw [hq c hc]
            exact Int.mul_dvd_mul_left _ (he c hc))
          obtain ⟨z, hz⟩ := h2
          refine ⟨z, ?_⟩
          apply Int.eq_of_mul_eq_mul_left hG0
          rw [Int.mul_one, ← Int.mul_assoc]
          exact hz
        | succ d ih =>
          intro c u hc ho hlo hhi
          apply vc_X7_lowers_35
          rw [nI_add, nI_clamp (by omega), nn_ad1, hle1, nn_l_eq0 (nn_l_nat hG), hhi c (Nat.le_refl _) (by omega), nn_l_exact (c := V c / (gl_g V 11 : Int)) (by rw [← hq c (by omega)]; exact hb c (by omega)) (nn_l_nat hG) hG0 (hq c (by omega))]
          refine ⟨fun q => absurd q (nI_ge (b := 11) (by omega) (by decide)), fun _ => ⟨fun q => absurd q (by omega), fun _ => ⟨nn_inn (by omega) (by decide), hG0, nn_inn (by omega) (by decide), ?_⟩⟩⟩
          refine ih (c + 1) _ (by omega) ⟨wo_fr_l ho.1 (by simp) _ _, fun j hj => ?_⟩ (fun c' h2 => ?_) (fun c' h2 h3 => ?_)
          · rw [wo_l_nk (by omega)]; exact ho.2 j hj
          · rcases Nat.lt_or_ge c' c with h3 | h3
            · rw [wo_l_nk (by omega)]; exact hlo c' h3
            · have e : c' = c := by omega
              subst e
              rw [wo_l_eq]
          · rw [wo_l_nk (by omega)]; exact hhi c' (by omega) h3
      exact loop 11 0 w (by omega) (rw_o_rf _ _) (fun c' h => absurd h (Nat.not_lt_zero _)) (fun c' _ h => hV c' h)
    · apply vc_X7_lowers_35
      rw [hle1]
      have fin : P w := k w 1 V (rw_o_rf _ _) hV (by decide) (fun c _ => (Int.one_mul _).symm) (by
        rcases (show gl_g V 11 = 0 ∨ gl_g V 11 = 1 by omega) with e | e
        · refine Or.inl (fun c hc => ?_)
          have := hdv c hc
          rw [e] at this
          exact Int.zero_dvd.mp this
        · refine Or.inr (fun z hz => ?_)
          have := gl_max V z 11 hz
          rw [e] at this
          exact this)
      exact ⟨fun q => absurd q (by decide), fun _ => ⟨fun _ => fin, fun q => absurd (by omega) q⟩⟩
  have loop : ∀ d c, c + d = 11 → jj_J K mX7_lowers (jj_Rv P) 5 [(0, .ref 58), (1, .int (nI (11 * i))), (2, .long (nn_l (gl_g V c : Int))), (4, .int (nI c))] [] w := by
    intro d
    induction d with
    | zero =>
      intro c hc
      apply vc_X7_lowers_5
      have e : c = 11 := by omega
      subst e
      exact ⟨fun _ => second, fun q => absurd (by decide) q⟩
    | succ d ih =>
      intro c hc
      apply vc_X7_lowers_5
      rw [nI_add, nI_clamp (by omega), nn_ad1, hV c (by omega)]
      refine ⟨fun q => absurd q (nI_ge (b := 11) (by omega) (by decide)), fun _ => ⟨nn_inn (by omega) (by decide), ?_⟩⟩
      refine m_divisor (nn_l_nat (gl_lt c (fun c' h => hb c' (by omega)))) (hb c (by omega)) ?_
      exact ih (c + 1) (by omega)
  exact loop 11 0 rfl
theorem m_clears {P : wo_T → Prop} {i j p : Nat} (hi : i < 10) (hj : j < 10) (hij : j ≠ i) (hp : p < 11) {V U : Nat → Int} (hV : rw_V w i V) (hU : rw_V w j U) (hVp : nn_L (V p)) (hb : ∀ c, c < 11 → nn_L (V c * U p - U c * V p))
    (k0 : V p = 0 → P w) (k1 : V p ≠ 0 → ∀ u d V', rw_o w u i → rw_V u i V' → 0 < d → (∀ c, c < 11 → V c * U p - U c * V p = d * V' c) → rw_P V' → P u) : jj_Cv K mX7_clears [.ref 58, .int (nI (11 * i)), .int (nI (11 * j)), .int (nI p)] w P := by
  apply en_X7_clears
  rw [nI_add, nI_add, nI_clamp (by omega), nI_clamp (by omega), hV p hp, hU p hp]
  refine ⟨nn_inn (by omega) (by decide), fun x1 e1 => ⟨nn_inn (by omega) (by decide), fun x2 e2 => ?_⟩⟩
  subst e1; subst e2
  rw [nn_l_eq0 hVp]
  refine ⟨k0, fun h0 => ?_⟩
  have loop : ∀ d c u, c + d = 11 → rw_o w u i → (∀ c', c' < c → u.2 64 (11 * i + c') = nn_l (V c' * U p - U c' * V p)) → (∀ c', c ≤ c' → c' < 11 → u.2 64 (11 * i + c') = nn_l (V c')) → jj_J K mX7_clears (jj_Rv P) 30 [(0, .ref 58), (1, .int (nI (11 * i))), (2, .int (nI (11 * j))), (3, .int (nI p)), (4, .long (nn_l (V p))), (6, .long (nn_l (U p))), (8, .int (nI c))] [] u := by
    intro d
    induction d with
    | zero =>
      intro c u hc ho hlo hhi
      apply vc_X7_clears_30
      have e : c = 11 := by omega
      subst e
      refine ⟨fun _ => ?_, fun q => absurd (by decide) q⟩
      exact m_lowers (V := fun c => V c * U p - U c * V p) hi (fun c hc => hlo c hc) hb (fun u2 d V' ho2 hV2 hd he hP => k1 h0 u2 d V' (rw_o_tr ho ho2) hV2 hd he hP)
    | succ d ih =>
      intro c u hc ho hlo hhi
      apply vc_X7_clears_30
      have hUc := rw_o_V ho hij hU c (by omega)
      rw [nI_add, nI_add, nI_clamp (n := 11 * i + c) (by omega), nI_clamp (n := 11 * j + c) (by omega), nn_ad1, hhi c (Nat.le_refl _) (by omega), hUc, nn_l_mul, nn_l_mul, nn_l_sub]
      refine ⟨fun q => absurd q (nI_ge (b := 11) (by omega) (by decide)), fun _ => ⟨nn_inn (by omega) (by decide), nn_inn (by omega) (by decide), nn_inn (by omega) (by decide), ?_⟩⟩
      refine ih (c + 1) _ (by omega) ⟨wo_fr_l ho.1 (by simp) _ _, fun j hj => ?_⟩ (fun c' h2 => ?_) (fun c' h2 h3 => ?_)
      · rw [wo_l_nk (by omega)]; exact ho.2 j hj
      · rcases Nat.lt_or_ge c' c with h3 | h3
        · rw [wo_l_nk (by omega)]; exact hlo c' h3
        · have e : c' = c := by omega
          subst e
          rw [wo_l_eq]
      · rw [wo_l_nk (by omega)]; exact hhi c' (by omega) h3
  exact loop 11 0 w (by omega) (rw_o_rf _ _) (fun c' h => absurd h (Nat.not_lt_zero _)) (fun c' _ h => hV c' h)
end
/-! rows by pairs and rows by the model's columns: the loads stand at 10 -/
def mw (m : Nat) (R : Nat → Int) : Nat → Int := fun c => if c = 10 then R m else if c < m then R c else 0
theorem mw_p {m : Nat} (hm : m ≤ 10) {R : Nat → Int} {p : Nat} (hp : p < m) : mw m R p = R p := by
  unfold mw
  rw [if_neg (by omega), if_pos hp]
theorem mw_10 (m : Nat) (R : Nat → Int) : mw m R 10 = R m := by simp [mw]
theorem mw_all {m : Nat} {R : Nat → Int} {Q : Int → Prop} (h0 : Q 0) (h : ∀ c, c ≤ m → Q (R c)) (c : Nat) : Q (mw m R c) := by
  unfold mw
  split
  · exact h m (Nat.le_refl _)
  · split
    · exact h c (by omega)
    · exact h0
theorem mw_low {m : Nat} (hm : m ≤ 10) {R V' : Nat → Int} {d : Int} (hd : 0 < d) (hz : ∀ c, m < c → R c = 0) (h : ∀ c, c < 11 → mw m R c = d * V' c) (hP : rw_P V') : ∃ R', (∀ c, c < 11 → V' c = mw m R' c) ∧ (∀ c, R c = d * R' c) ∧ (∀ c, m < c → R' c = 0) ∧ (rr_prim m R' ∨ ∀ c, R' c = 0) := by
  have hV0 : ∀ c, m ≤ c → c < 10 → V' c = 0 := fun c h1 h2 => by
    have := h c (by omega)
    unfold mw at this
    rw [if_neg (by omega), if_neg (by omega)] at this
    exact (Int.mul_eq_zero.mp this.symm).resolve_left (by omega)
  refine ⟨fun c => if c = m then V' 10 else if c < m then V' c else 0, fun c hc => ?_, fun c => ?_, fun c hc => ?_, ?_⟩
  · unfold mw
    by_cases e : c = 10
    · simp [e]
    · by_cases e2 : c < m
      · simp [e, e2, Nat.ne_of_lt e2]
      · simp [e, e2]
        exact hV0 c (by omega) (by omega)
  · by_cases e : c = m
    · have := h 10 (by omega)
      rw [mw_10] at this
      simp [e, this]
    · by_cases e2 : c < m
      · have := h c (by omega)
        rw [mw_p hm e2] at this
        simp [e, e2, this]
      · simp [e, e2, hz c (by omega)]
  · have h1 : c ≠ m := by omega
    have h2 : ¬ c < m := by omega
    simp [h1, h2]
  · rcases hP with h0 | hp
    · refine Or.inr (fun c => ?_)
      simp only []
      split
      · exact h0 10 (by omega)
      · split
        · exact h0 c (by omega)
        · rfl
    · refine Or.inl (fun e he => hp e (fun c hc => ?_))
      by_cases e1 : c = 10
      · have := he m (Nat.le_refl _)
        simp at this
        rw [e1]; exact this
      · rcases Nat.lt_or_ge c m with h2 | h2
        · have := he c (by omega)
          simp [Nat.ne_of_lt h2, h2] at this
          exact this
        · rw [hV0 c h2 (by omega)]
          exact Int.dvd_zero _

theorem xs_mul {a b A B : Int} (h1 : -A < a) (h2 : a < A) (h3 : -B < b) (h4 : b < B) : -(A * B) < a * b ∧ a * b < A * B := by
  have e : (a * b).natAbs < A.natAbs * B.natAbs := by
    rw [Int.natAbs_mul]
    exact Nat.mul_lt_mul'' (by omega) (by omega)
  have e2 : ((A.natAbs * B.natAbs : Nat) : Int) = A * B := by
    rw [Int.natCast_mul, Int.natAbs_of_nonneg (by omega), Int.natAbs_of_nonneg (by omega)]
  omega
theorem nn_L_of {a : Int} (B : Int) (hB : B ≤ 9223372036854775808) (h1 : -B < a) (h2 : a < B) : nn_L a := ⟨by omega, by omega⟩
theorem tb_pbd0 {g : gd_T} (h : gd_ok g) (A : Nat) (ks rr : List Nat) (hk : ∀ k, k ∈ ks → k < gd_m g) (hl : ks.length ≤ 7) : -2097153 < tb_p g A ks rr ∧ tb_p g A ks rr < 2097153 := tb_bd0 h A _ ks hk hl
section
variable {K : jj_K} {w : wo_T} {g : gd_T} {A : Nat} {ks rr : List Nat}
theorem tb_cell (hok : gd_ok g) (hL : tb_L g A w ks rr) {c : Nat} (hlt : ∀ j, j ∈ ks → j < c) (hc : c ≤ gd_m g) {r : Nat} (hr : r < tb_r g) (hn : r ∉ rr) : w.2 (10 + 1 * ks.length) (r * 11 + c) = nn_l (tb_p g A (c :: ks) (r :: rr)) ∧ nn_L (tb_p g A (c :: ks) (r :: rr)) := by
  obtain ⟨a1, a2, a3, a4, a5, a6, a7, a8, a9⟩ := tb_top hL
  have hb := tb_pbd hok A c ks (r :: rr) hc a6 a7
  rw [Nat.one_mul]
  exact ⟨a5 c hlt r hr hn c (Nat.le_refl _) hc, nn_L_of 67108864 (by decide) hb.1 hb.2⟩
theorem c_pivotRow {P : Int32 → wo_T → Prop} (hok : gd_ok g) (hB : tb_B g w) (hL : tb_L g A w ks rr) (c : Nat) (hlt : ∀ j, j ∈ ks → j < c) (hc : c < gd_m g)
    (k1 : ∀ r, r < tb_r g → r ∉ rr → ks.length < 7 → tb_p g A (c :: ks) (r :: rr) ≠ 0 → P (nI r) w) (k0 : (∀ r, r < tb_r g → r ∉ rr → tb_p g A (c :: ks) (r :: rr) = 0) → P (-1) w) : jj_Ci K mX5_pivotRow [.ref 8, .int (nI ks.length), .int (nI c)] w P := by
  obtain ⟨a1, a2, a3, a4, a5, a6, a7, a8, a9⟩ := tb_top hL
  have hm := gd_m_le hok
  have hr10 := tb_r_le g
  apply en_X5_pivotRow
  rw [nn_ad1]
  have e8 : nI (ks.length + 1) < 8 ↔ ks.length + 1 < 8 := nI_ltI (b := 8) (by omega) (by decide)
  rw [e8]
  refine ⟨fun h7 => ?_, fun h7 => k0 (fun r _ _ => ?_)⟩
  · have loop : ∀ d r, r + d = tb_r g → (∀ r', r' < r → r' ∉ rr → tb_p g A (c :: ks) (r' :: rr) = 0) → jj_J K mX5_pivotRow (jj_Ri P) 12 [(0, .ref 8), (1, .int (nI ks.length)), (2, .int (nI c)), (3, .int (nI r))] [] w := by
      intro d
      induction d with
      | zero =>
        intro r hr hz
        apply vc_X5_pivotRow_12
        rw [hB.1]
        exact ⟨fun _ => k0 (fun r' h1 h2 => hz r' (by omega) h2), fun q => absurd (nI_le (by omega) (by omega)) q⟩
      | succ d ih =>
        intro r hr hz
        have hr1 : r < tb_r g := by omega
        apply vc_X5_pivotRow_12
        rw [hB.1, nI_clamp (by omega), a2, nn_bit0 (by have := tb_u_lt rr; omega) (by omega), tb_u_tb rr (by omega), nn_el, nI_add, nI_clamp (by omega), nn_ad1]
        refine ⟨fun q => absurd q (nI_ge hr1 (by omega)), fun _ => ⟨nn_inn (by omega) (by decide), fun hu => ?_, fun hu => ⟨nn_inn (by omega) (by decide), nn_inn (by omega) (by decide), ?_⟩⟩⟩
        · refine ih (r + 1) (by omega) (fun r' h1 h2 => ?_)
          rcases Nat.lt_or_ge r' r with h3 | h3
          · exact hz r' h3 h2
          · have e : r' = r := by omega
            subst e
            simp [h2] at hu
        · have hn : r ∉ rr := by simpa using hu
          obtain ⟨e, hb⟩ := tb_cell hok hL hlt (Nat.le_of_lt hc) hr1 hn
          rw [e, nn_l_eq0 hb]
          refine ⟨fun hzero => ih (r + 1) (by omega) (fun r' h1 h2 => ?_), fun hnz => k1 r hr1 hn (by omega) hnz⟩
          rcases Nat.lt_or_ge r' r with h3 | h3
          · exact hz r' h3 h2
          · have e : r' = r := by omega
            subst e
            exact hzero
    exact loop (tb_r g) 0 (by omega) (fun r' h1 => absurd h1 (Nat.not_lt_zero _))
  · exact tb_full hok A _ c ks hc a6 (by omega) (List.nodup_cons.mpr ⟨fun q => absurd (hlt c q) (Nat.lt_irrefl _), a9⟩)
theorem c_bears {P : Int32 → wo_T → Prop} (hok : gd_ok g) (hB : tb_B g w) (hL : tb_L g A w ks rr)
    (k1 : (∀ r, r < tb_r g → r ∉ rr → tb_p g A (gd_m g :: ks) (r :: rr) = 0) → P 1 w) (k0 : ∀ r, r < tb_r g → r ∉ rr → tb_p g A (gd_m g :: ks) (r :: rr) ≠ 0 → P 0 w) : jj_Ci K mX5_bears [.ref 8, .int (nI ks.length)] w P := by
  obtain ⟨a1, a2, a3, a4, a5, a6, a7, a8, a9⟩ := tb_top hL
  have hm := gd_m_le hok
  have hr10 := tb_r_le g
  apply en_X5_bears
  have loop : ∀ d r, r + d = tb_r g → (∀ r', r' < r → r' ∉ rr → tb_p g A (gd_m g :: ks) (r' :: rr) = 0) → jj_J K mX5_bears (jj_Ri P) 2 [(0, .ref 8), (1, .int (nI ks.length)), (2, .int (nI r))] [] w := by
    intro d
    induction d with
    | zero =>
      intro r hr hz
      apply vc_X5_bears_2
      rw [hB.1]
      exact ⟨fun _ => k1 (fun r' h1 h2 => hz r' (by omega) h2), fun q => absurd (nI_le (by omega) (by omega)) q⟩
    | succ d ih =>
      intro r hr hz
      have hr1 : r < tb_r g := by omega
      apply vc_X5_bears_2
      rw [hB.1, hB.2, nI_clamp (by omega), a2, nn_bit0 (by have := tb_u_lt rr; omega) (by omega), tb_u_tb rr (by omega), nn_el, nI_add, nI_clamp (by omega), nn_ad1]
      refine ⟨fun q => absurd q (nI_ge hr1 (by omega)), fun _ => ⟨nn_inn (by omega) (by decide), fun hu => ?_, fun hu => ⟨nn_inn (by omega) (by decide), nn_inn (by omega) (by decide), ?_⟩⟩⟩
      · refine ih (r + 1) (by omega) (fun r' h1 h2 => ?_)
        rcases Nat.lt_or_ge r' r with h3 | h3
        · exact hz r' h3 h2
        · have e : r' = r := by omega
          subst e
          simp [h2] at hu
      · have hn : r ∉ rr := by simpa using hu
        obtain ⟨e, hb⟩ := tb_cell hok hL (fun j hj => a6 j hj) (Nat.le_refl _) hr1 hn
        rw [e, nn_l_eq0 hb]
        refine ⟨fun hzero => ih (r + 1) (by omega) (fun r' h1 h2 => ?_), fun hnz => k0 r hr1 hn hnz⟩
        rcases Nat.lt_or_ge r' r with h3 | h3
        · exact hz r' h3 h2
        · have e : r' = r := by omega
          subst e
          exact hzero
  exact loop (tb_r g) 0 (by omega) (fun r' h1 => absurd h1 (Nat.not_lt_zero _))
/-- what stands behind the rows that are done -/
def te_I (g : gd_T) (A : Nat) (w : wo_T) (ks rr : List Nat) (c r1 r : Nat) (u : wo_T) : Prop := wo_fr [] [10 + 1 * (ks.length + 1)] w u ∧ ∀ r', r' < r → r' < tb_r g → r' ∉ (r1 :: rr) → ∀ c', c + 1 ≤ c' → c' ≤ gd_m g → u.2 (10 + 1 * (ks.length + 1)) (r' * 11 + c') = nn_l (tb_p g A (c' :: c :: ks) (r' :: r1 :: rr))
theorem te_in {P : Int32 → wo_T → Prop} (hok : gd_ok g) (hB : tb_B g w) (hL : tb_L g A w ks rr) (c : Nat) (hlt : ∀ j, j ∈ ks → j < c) (hc : c < gd_m g) (h7 : ks.length < 7) {r1 : Nat} (hr1 : r1 < tb_r g) (hn1 : r1 ∉ rr) {r : Nat} (hr : r < tb_r g) (hn : r ∉ (r1 :: rr))
    (kk : ∀ u, te_I g A w ks rr c r1 (r + 1) u → jj_J K mX5_enter (jj_Ri P) 69 [(0, .ref 8), (1, .int (nI ks.length)), (2, .int (nI c)), (3, .int (nI r1)), (4, .ref (10 + 1 * ks.length)), (5, .ref (10 + 1 * (ks.length + 1))), (6, .int (nI (r1 * 11))), (7, .long (nn_l (tb_p g A (c :: ks) (r1 :: rr)))), (9, .long (nn_l (tb_p g A ks rr))), (11, .int (nI (tb_u (r1 :: rr)))), (12, .int (nI (r + 1)))] [] u) :
    ∀ d c' u, c' + d = gd_m g + 1 → c + 1 ≤ c' → te_I g A w ks rr c r1 r u → (∀ c2, c + 1 ≤ c2 → c2 < c' → u.2 (10 + 1 * (ks.length + 1)) (r * 11 + c2) = nn_l (tb_p g A (c2 :: c :: ks) (r :: r1 :: rr))) →
      jj_J K mX5_enter (jj_Ri P) 119 [(0, .ref 8), (1, .int (nI ks.length)), (2, .int (nI c)), (3, .int (nI r1)), (4, .ref (10 + 1 * ks.length)), (5, .ref (10 + 1 * (ks.length + 1))), (6, .int (nI (r1 * 11))), (7, .long (nn_l (tb_p g A (c :: ks) (r1 :: rr)))), (9, .long (nn_l (tb_p g A ks rr))), (11, .int (nI (tb_u (r1 :: rr)))), (12, .int (nI r)), (13, .int (nI (r * 11))), (14, .long (nn_l (tb_p g A (c :: ks) (r :: rr)))), (16, .int (nI c'))] [] u := by
  obtain ⟨a1, a2, a3, a4, a5, a6, a7, a8, a9⟩ := tb_top hL
  have hm := gd_m_le hok
  have hr10 := tb_r_le g
  have hnr : r ∉ rr := fun q => hn (List.mem_cons_of_mem _ q)
  intro d
  induction d with
  | zero =>
    intro c' u hc' hcc hI hrow
    apply vc_X5_enter_119 P _ _ _ _ (wo_l10 _ (by omega)) _ (wo_l10 _ (by omega))
    rw [hI.1.1 8 (by simp), hB.2, nn_ad1]
    refine ⟨fun _ => kk u ⟨hI.1, fun r' h1 h2 h3 c2 h4 h5 => ?_⟩, fun q => absurd (nI_lt (by omega) (by omega)) q⟩
    rcases Nat.lt_or_ge r' r with h6 | h6
    · exact hI.2 r' h6 h2 h3 c2 h4 h5
    · have e : r' = r := by omega
      subst e
      exact hrow c2 h4 (by omega)
  | succ d ih =>
    intro c' u hc' hcc hI hrow
    have hcm : c' ≤ gd_m g := by omega
    apply vc_X5_enter_119 P _ _ _ _ (wo_l10 _ (by omega)) _ (wo_l10 _ (by omega))
    rw [hI.1.1 8 (by simp), hB.2, nI_add, nI_add, nI_clamp (by omega), nI_clamp (by omega), nn_ad1, nn_ad1]
    refine ⟨fun q => absurd q (nI_nlt hcm (by omega)), fun _ => ⟨nn_inn (by omega) (by decide), nn_inn (by omega) (by decide), ?_, nn_inn (by omega) (by decide), ?_⟩⟩
    · have hb0 := tb_pbd0 hok A ks rr a6 a7
      rw [nn_l_eq0 (nn_L_of 2097153 (by decide) hb0.1 hb0.2)]
      exact a4
    · have hfrm : u.2 (10 + 1 * ks.length) = w.2 (10 + 1 * ks.length) := hI.1.2 _ (by simp)
      have hlt' : ∀ j, j ∈ ks → j < c' := fun j hj => Nat.lt_of_lt_of_le (hlt j hj) (by omega)
      obtain ⟨e1, -⟩ := tb_cell hok hL hlt' hcm hr hnr
      obtain ⟨e2, -⟩ := tb_cell hok hL hlt' hcm hr1 hn1
      rw [hfrm, e1, e2, nn_l_mul, nn_l_mul, nn_l_sub]
      have hstep := tb_step A c' c r r1 ks rr hr1 hr a4
      have hb0 := tb_pbd0 hok A ks rr a6 a7
      have hbz := tb_pbd hok A c' (c :: ks) (r :: r1 :: rr) hcm (fun k hk => by
        rcases List.mem_cons.mp hk with rfl | hk
        · exact hc
        · exact a6 k hk) (by simp; omega)
      have hmul := xs_mul hb0.1 hb0.2 hbz.1 hbz.2
      rw [nn_l_exact (c := tb_p g A (c' :: c :: ks) (r :: r1 :: rr)) (nn_L_of _ (by decide) hmul.1 hmul.2) (nn_L_of 2097153 (by decide) hb0.1 hb0.2) a4 hstep.symm]
      refine ih (c' + 1) _ (by omega) (by omega) ⟨wo_fr_l hI.1 (by simp) _ _, fun r' h1 h2 h3 c2 h4 h5 => ?_⟩ (fun c2 h4 h5 => ?_)
      · rw [wo_l_nk (by omega)]
        exact hI.2 r' h1 h2 h3 c2 h4 h5
      · rcases Nat.lt_or_ge c2 c' with h6 | h6
        · rw [wo_l_nk (by omega)]
          exact hrow c2 h4 h6
        · have e : c2 = c' := by omega
          subst e
          rw [wo_l_eq]
theorem c_enter {P : Int32 → wo_T → Prop} (hok : gd_ok g) (hB : tb_B g w) (hL : tb_L g A w ks rr) (c : Nat) (hlt : ∀ j, j ∈ ks → j < c) (hc : c < gd_m g)
    (k1 : ∀ r u, wo_fr [18, 19, 20] [10 + 1 * (ks.length + 1), 21] w u → tb_L g A u (c :: ks) (r :: rr) → P 1 u) (k0 : (∀ r, r < tb_r g → r ∉ rr → tb_p g A (c :: ks) (r :: rr) = 0) → P 0 w) : jj_Ci K mX5_enter [.ref 8, .int (nI ks.length), .int (nI c)] w P := by
  obtain ⟨a1, a2, a3, a4, a5, a6, a7, a8, a9⟩ := tb_top hL
  have hm := gd_m_le hok
  have hr10 := tb_r_le g
  apply en_X5_enter
  refine c_pivotRow hok hB hL c hlt hc (fun r1 hr1 hn1 h7 hnz => ?_) (fun hz => ?_)
  · refine ⟨fun _ => ?_, fun q => absurd (nI_pos' (by omega)) q⟩
    rw [nn_ad1, nI_clamp (by omega), nI_clamp (by omega), nn_el, nn_one (by omega), a2, nn_or, tb_u_cons rr (by omega), a3]
    refine ⟨nn_inn (by omega) (by decide), nn_inn (by omega) (by decide), fun x6 e6 => ?_⟩
    subst e6
    rw [nI_add, nI_clamp (by omega)]
    refine ⟨nn_inn (by omega) (by decide), fun x7 e7 => ⟨nn_inn (by omega) (by decide), fun x8 e8 => ⟨nn_inn (by omega) (by decide), fun x9 e9 => ?_⟩⟩⟩
    rw [(tb_cell hok hL hlt (Nat.le_of_lt hc) hr1 hn1).1] at e7
    subst e7; subst e8; subst e9
    have loop : ∀ d r u, r + d = tb_r g → te_I g A w ks rr c r1 r u → jj_J K mX5_enter (jj_Ri P) 69 [(0, .ref 8), (1, .int (nI ks.length)), (2, .int (nI c)), (3, .int (nI r1)), (4, .ref (10 + 1 * ks.length)), (5, .ref (10 + 1 * (ks.length + 1))), (6, .int (nI (r1 * 11))), (7, .long (nn_l (tb_p g A (c :: ks) (r1 :: rr)))), (9, .long (nn_l (tb_p g A ks rr))), (11, .int (nI (tb_u (r1 :: rr)))), (12, .int (nI r))] [] u := by
      intro d
      induction d with
      | zero =>
        intro r u hr hI
        apply vc_X5_enter_69 P _ _ _ _ (wo_l10 _ (by omega)) _ (wo_l10 _ (by omega))
        rw [hI.1.1 8 (by simp), hB.1, nI_clamp (by omega), nn_ad1, nI_clamp (by omega)]
        refine ⟨fun _ => ⟨nn_inn (by omega) (by decide), nn_inn (by omega) (by decide), nn_inn (by omega) (by decide), nn_inn (by omega) (by decide), ?_⟩, fun q => absurd (nI_le (by omega) (by omega)) q⟩
        have hfu : wo_fr [18, 19, 20] [10 + 1 * (ks.length + 1), 21] w (wo_l (wo_i (wo_i (wo_i u 18 ks.length (nI c)) 19 ks.length (nI r1)) 20 (ks.length + 1) (nI (tb_u (r1 :: rr)))) 21 (ks.length + 1) (nn_l (tb_p g A (c :: ks) (r1 :: rr)))) :=
          wo_fr_l (wo_fr_i (wo_fr_i (wo_fr_i (wo_fr_up hI.1 (fun b hb => by cases hb) (fun b hb => by simp at hb; simp [hb])) (by simp) _ _) (by simp) _ _) (by simp) _ _) (by simp) _ _
        refine k1 r1 _ hfu ⟨tb_L_fr (fun j hj => ⟨?_, ?_⟩) (fun j hj => ⟨?_, ?_, ?_⟩) hL, hc, hlt, hr1, hn1, h7, ?_, ?_, ?_, ?_, hnz, ?_⟩
        · rw [wo_l_1, wo_i_nk (by omega), wo_i_nk (by omega), wo_i_nk (by omega), hI.1.1 18 (by simp)]
        · rw [wo_l_1, wo_i_nk (by omega), wo_i_nk (by omega), wo_i_nk (by omega), hI.1.1 19 (by simp)]
        · rw [wo_l_1, wo_i_nk (by omega), wo_i_nk (by omega), wo_i_nk (by omega), hI.1.1 20 (by simp)]
        · rw [wo_l_nk (by omega), wo_i_2, wo_i_2, wo_i_2, hI.1.2 21 (by simp; omega)]
        · rw [wo_l_ne _ (by omega), wo_i_2, wo_i_2, wo_i_2, hI.1.2 _ (by simp; omega)]
        · rw [wo_l_1, wo_i_nk (by omega), wo_i_nk (by omega), wo_i_eq]
        · rw [wo_l_1, wo_i_nk (by omega), wo_i_eq]
        · rw [wo_l_1, wo_i_eq]
        · rw [wo_l_eq]
        · intro r' h1 h2 c' h3 h4
          have e10 : 10 + (c :: ks).length = 10 + 1 * (ks.length + 1) := by simp
          rw [e10, wo_l_ne _ (by omega), wo_i_2, wo_i_2, wo_i_2]
          exact hI.2 r' (by omega) h1 h2 c' h3 h4
      | succ d ih =>
        intro r u hr hI
        have hrr : r < tb_r g := by omega
        apply vc_X5_enter_69 P _ _ _ _ (wo_l10 _ (by omega)) _ (wo_l10 _ (by omega))
        have hb0 := tb_pbd0 hok A ks rr a6 a7
        rw [hI.1.1 8 (by simp), hB.1, nn_bit0 (by have := tb_u_lt (r1 :: rr); omega) (by omega), tb_u_tb _ (by omega), nn_el]
        simp only [nn_ad1]
        refine ⟨fun q => absurd q (nI_ge hrr (by omega)), fun _ => ⟨fun q => ?_, fun _ => ⟨fun hu x4 e4 => ?_, fun hu => ih (r + 1) u (by omega) ⟨hI.1, fun r' h1 h2 h3 => ?_⟩⟩⟩⟩
        · rw [nn_l_eq0 (nn_L_of 2097153 (by decide) hb0.1 hb0.2)] at q
          exact absurd q a4
        · subst e4
          have hn : r ∉ (r1 :: rr) := by simpa using hu
          rw [nI_add, nI_clamp (by omega)]
          refine ⟨nn_inn (by omega) (by decide), fun x5 e5 x6 e6 => ?_⟩
          rw [hI.1.2 _ (by simp), (tb_cell hok hL hlt (Nat.le_of_lt hc) hrr (fun q => hn (List.mem_cons_of_mem _ q))).1] at e5
          subst e5; subst e6
          exact te_in hok hB hL c hlt hc h7 hr1 hn1 hrr hn (fun u hu => ih (r + 1) u (by omega) hu) (gd_m g - c) (c + 1) u (by omega) (Nat.le_refl _) hI (fun c2 h1 h2 => absurd h2 (by omega))
        · rcases Nat.lt_or_ge r' r with h4 | h4
          · exact hI.2 r' h4 h2 h3
          · have e : r' = r := by omega
            subst e
            exact absurd (decide_eq_false h3) hu
    exact loop (tb_r g) 0 w (by omega) ⟨wo_fr_rf _ _ _, fun r' h1 => absurd h1 (Nat.not_lt_zero _)⟩
  · exact ⟨fun q => absurd q (by decide), fun _ => k0 hz⟩
end

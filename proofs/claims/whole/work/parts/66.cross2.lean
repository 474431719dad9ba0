/-! ===== crossings: the model's ===== -/
def mx (w u : wo_T) : Prop := wo_fr [58] [] w u ∧ ∀ j, j ≠ 14 → j ≠ 15 → j ≠ 16 → u.1 58 j = w.1 58 j
theorem mx_rf (w : wo_T) : mx w w := ⟨wo_fr_rf _ _ _, fun _ _ _ _ => rfl⟩
theorem mx_tr {w u v : wo_T} (h : mx w u) (h2 : mx u v) : mx w v := ⟨wo_fr_tr h.1 h2.1, fun j a b c => (h2.2 j a b c).trans (h.2 j a b c)⟩
theorem mx_i {w : wo_T} {j : Nat} (hj : j = 14 ∨ j = 15 ∨ j = 16) (v : Int32) : mx w (wo_i w 58 j v) := ⟨wo_fr_i (wo_fr_rf _ _ _) (by simp) _ _, fun i a b c => wo_i_nk (by omega)⟩
theorem mx_mq {w u : wo_T} (h : mx w u) : mq w u := ⟨wo_fr_up h.1 (fun b hb => by simp at hb; simp [hb]) (fun b hb => by cases hb), fun j _ _ c d e => h.2 j c d e⟩
theorem mx_mi {w u : wo_T} (hw : mi w) (h : mx w u) : mi u := by
  refine mq_mi hw (mx_mq h) ?_
  have h3 := hw.2.2
  unfold mt_k at h3 ⊢
  rw [h.2 13 (by decide) (by decide) (by decide)]
  rcases h3 with q | ⟨q, hT⟩
  · exact Or.inl q
  · exact Or.inr ⟨q, fun S hS => mt_e_eq (w := w) (by rw [h.1.1 66 (by decide)]) (by rw [h.1.2 67 (by simp)]) (by rw [h.1.2 68 (by simp)]) (hT S hS)⟩
theorem mx_g {w u : wo_T} (h : mx w u) : gm_g u = gm_g w := mq_g (mx_mq h)
def cx_16 (g : gd_T) (a b : Nat) (u : wo_T) : Prop := ∃ σ : Int, (σ = 1 ∨ σ = -1) ∧ u.1 58 16 = nn_i (σ * cx_w g a b) ∧ u.1 58 14 = nn_i (σ * cx_s g a b)
section
variable {K : jj_K} {w : wo_T}
theorem m_isCross135 {P : Int32 → wo_T → Prop} {g : gd_T} (hok : gd_ok g) (hg : gm_g w = g) {a b : Nat} (ha : a < gd_m g) (hb : b < gd_m g) {s0 : Int32} (hs0 : (s0 = 0 ∧ ¬ cx_x g a b) ∨ s0 = 1) {σ : Int} (hσ : (σ = 1 ∧ 0 ≤ cx_w g a b) ∨ (σ = -1 ∧ cx_w g a b < 0)) (h16 : w.1 58 16 = nn_i (cx_w g a b)) (k1 : cx_x g a b → ∀ u, mx w u → cx_16 g a b u → P 1 u) (k0 : ¬ cx_x g a b → ∀ u, mx w u → P 0 u) : jj_J K mX7_isCross (jj_Ri P) 135 [(0, .ref 58), (1, .int (nI a)), (2, .int (nI b)), (3, .int s0), (4, .int (nn_i (cx_dx g a b))), (5, .int (nn_i (cx_dy g a b)))] [.int (nn_i σ)] w := by
  have hm := gd_m_le hok
  obtain ⟨⟨m1, m2, m3⟩, -, -, -, -⟩ := cx_bd hok ha hb
  apply vc_X7_isCross_135
  have x1 : mx w (wo_i w 58 16 (w.1 58 16 * nn_i σ)) := mx_i (Or.inr (Or.inr rfl)) _
  have v16 : (wo_i w 58 16 (w.1 58 16 * nn_i σ)).1 58 16 = nn_i (σ * cx_w g a b) := by rw [wo_i_eq, h16, nn_i_mul, Int.mul_comm]
  generalize wo_i w 58 16 (w.1 58 16 * nn_i σ) = w1 at *
  have g1 : gm_g w1 = g := (mx_g x1).trans hg
  refine m_far (j := b) (ax := 1) (by omega) (by decide) ?_
  refine m_far (j := b) (ax := 0) (by omega) (by decide) ?_
  rw [g1, nn_i_mul, nn_i_mul, nn_i_sub, nn_i_mul]
  have x2 : mx w1 (wo_i w1 58 14 (nn_i (σ * (cx_dx g a b * gd_run g b 1 - cx_dy g a b * gd_run g b 0)))) := mx_i (Or.inl rfl) _
  have v14 : (wo_i w1 58 14 (nn_i (σ * (cx_dx g a b * gd_run g b 1 - cx_dy g a b * gd_run g b 0)))).1 58 14 = nn_i (σ * cx_s g a b) := wo_i_eq
  have v16' : (wo_i w1 58 14 (nn_i (σ * (cx_dx g a b * gd_run g b 1 - cx_dy g a b * gd_run g b 0)))).1 58 16 = nn_i (σ * cx_w g a b) := by rw [wo_i_nk (by decide), v16]
  generalize wo_i w1 58 14 (nn_i (σ * (cx_dx g a b * gd_run g b 1 - cx_dy g a b * gd_run g b 0))) = w2 at *
  have g2 : gm_g w2 = g := (mx_g x2).trans g1
  refine m_far (j := a) (ax := 1) (by omega) (by decide) ?_
  refine m_far (j := a) (ax := 0) (by omega) (by decide) ?_
  rw [g2, nn_i_mul, nn_i_mul, nn_i_sub, nn_i_mul]
  have x3 : mx w2 (wo_i w2 58 15 (nn_i (σ * (cx_dx g a b * gd_run g a 1 - cx_dy g a b * gd_run g a 0)))) := mx_i (Or.inr (Or.inl rfl)) _
  have y15 : (wo_i w2 58 15 (nn_i (σ * (cx_dx g a b * gd_run g a 1 - cx_dy g a b * gd_run g a 0)))).1 58 15 = nn_i (σ * cx_t g a b) := wo_i_eq
  have y16 : (wo_i w2 58 15 (nn_i (σ * (cx_dx g a b * gd_run g a 1 - cx_dy g a b * gd_run g a 0)))).1 58 16 = nn_i (σ * cx_w g a b) := by rw [wo_i_nk (by decide), v16']
  have y14 : (wo_i w2 58 15 (nn_i (σ * (cx_dx g a b * gd_run g a 1 - cx_dy g a b * gd_run g a 0)))).1 58 14 = nn_i (σ * cx_s g a b) := by rw [wo_i_nk (by decide), v14]
  generalize wo_i w2 58 15 (nn_i (σ * (cx_dx g a b * gd_run g a 1 - cx_dy g a b * gd_run g a 0))) = w3 at *
  have xx : mx w w3 := mx_tr x1 (mx_tr x2 x3)
  have hσ2 : σ = 1 ∨ σ = -1 := by omega
  have h16' : cx_16 g a b w3 := ⟨σ, hσ2, y16, y14⟩
  have no : ¬ cx_x g a b → P 0 w3 := fun q => k0 q w3 xx
  have one : nn_I 1 := by constructor <;> decide
  have e1 : nn_i (σ * cx_w g a b) - 1 = nn_i (σ * cx_w g a b - 1) := nn_i_sub _ 1
  unfold cx_x cx_i at *
  rw [y14, y16, e1]
  generalize cx_w g a b = W at *
  generalize cx_s g a b = S at *
  generalize cx_t g a b = T at *
  have bw : (σ * W).natAbs ≤ 32 ∧ (σ * W = W ∧ 0 ≤ W ∧ σ * S = S ∧ σ * T = T ∨ σ * W = -W ∧ W < 0 ∧ σ * S = -S ∧ σ * T = -T) := by
    rcases hσ with ⟨e, p⟩ | ⟨e, p⟩
    · subst e
      rw [Int.one_mul, Int.one_mul, Int.one_mul]
      exact ⟨m1, Or.inl ⟨rfl, p, rfl, rfl⟩⟩
    · subst e
      have f : ∀ x : Int, -1 * x = -x := fun x => by omega
      rw [f, f, f]
      exact ⟨by omega, Or.inr ⟨rfl, p, rfl, rfl⟩⟩
  obtain ⟨bw1, bw2⟩ := bw
  generalize σ * W = W' at *
  generalize σ * S = S' at *
  generalize σ * T = T' at *
  have l1 : nn_i S' < 1 ↔ S' < 1 := nn_i_lt (b := 1) (nn_I_ab (by omega)) one
  have l2 : nn_i (W' - 1) < nn_i S' ↔ W' - 1 < S' := nn_i_lt (nn_I_ab (by omega)) (nn_I_ab (by omega))
  have l3 : nn_i T' < 1 ↔ T' < 1 := nn_i_lt (b := 1) (nn_I_ab (by omega)) one
  have l4 : nn_i (W' - 1) < nn_i T' ↔ W' - 1 < T' := nn_i_lt (nn_I_ab (by omega)) (nn_I_ab (by omega))
  have l5 : nn_i W' = 0 ↔ W' = 0 := nn_i_eq (b := 0) (nn_I_ab (by omega)) (nn_I_ab (by decide))
  rw [l5]
  refine ⟨fun q => no ?_, fun q => ⟨fun q0 => no (by omega), fun q0 => m_in (nn_i S') 1 (nn_i (W' - 1)) (fun p1 p2 => ⟨fun q => absurd q (by decide), fun _ => ?_⟩) (fun p => ⟨fun _ => no ?_, fun q => absurd rfl q⟩)⟩⟩
  · rcases hs0 with z | z
    · exact z.2
    · rw [z] at q; exact absurd q (by decide)
  · rw [l1] at p1
    rw [l2] at p2
    rw [y15, y16, e1]
    refine m_in (nn_i T') 1 (nn_i (W' - 1)) (fun p3 p4 => ⟨fun q => absurd q (by decide), fun _ => k1 ?_ w3 xx h16'⟩) (fun p => ⟨fun _ => no ?_, fun q => absurd rfl q⟩)
    · rw [l3] at p3
      rw [l4] at p4
      omega
    · rw [l3, l4] at p
      omega
  · rw [l1, l2] at p
    omega
theorem m_isCross {P : Int32 → wo_T → Prop} {g : gd_T} (hok : gd_ok g) (hg : gm_g w = g) {a b : Nat} (ha : a < gd_m g) (hb : b < gd_m g) (k1 : cx_x g a b → ∀ u, mx w u → cx_16 g a b u → P 1 u) (k0 : ¬ cx_x g a b → ∀ u, mx w u → P 0 u) : jj_Ci K mX7_isCross [.ref 58, .int (nI a), .int (nI b)] w P := by
  have hm := gd_m_le hok
  obtain ⟨⟨m1, m2, m3⟩, -, -, -, -⟩ := cx_bd hok ha hb
  have la := gd_les_gre a (by omega)
  have lb := gd_les_gre b (by omega)
  have go : ∀ s0 : Int32, ((s0 = 0 ∧ ¬ cx_x g a b) ∨ s0 = 1) → jj_J K mX7_isCross (jj_Ri P) 49 [(0, .ref 58), (1, .int (nI a)), (2, .int (nI b))] [.int s0] w := by
    intro s0 hs0
    apply vc_X7_isCross_49
    refine m_lesser (by omega) ⟨nn_inn (by omega) (by decide), m_lesser (by omega) ⟨nn_inn (by omega) (by decide), fun x ex => m_lesser (by omega) ⟨nn_inn (by omega) (by decide), m_lesser (by omega) ⟨nn_inn (by omega) (by decide), fun y ey => ?_⟩⟩⟩⟩
    rw [nI_clamp (by omega), nI_clamp (by omega)] at ex ey
    have ex' : x = nn_i (cx_dx g a b) := by
      rw [ex, nn_i_of (w.1 59 (gd_les b)), nn_i_of (w.1 59 (gd_les a)), nn_i_sub, ← hg]; rfl
    have ey' : y = nn_i (cx_dy g a b) := by
      rw [ey, nn_i_of (w.1 60 (gd_les b)), nn_i_of (w.1 60 (gd_les a)), nn_i_sub, ← hg]; rfl
    rw [ex', ey']
    refine m_far (j := a) (ax := 0) (by omega) (by decide) ?_
    refine m_far (j := b) (ax := 1) (by omega) (by decide) ?_
    refine m_far (j := a) (ax := 1) (by omega) (by decide) ?_
    refine m_far (j := b) (ax := 0) (by omega) (by decide) ?_
    rw [hg, nn_i_mul, nn_i_mul, nn_i_sub, wo_i_eq]
    have x1 : mx w (wo_i w 58 16 (nn_i (gd_run g a 0 * gd_run g b 1 - gd_run g a 1 * gd_run g b 0))) := mx_i (Or.inr (Or.inr rfl)) _
    have l0 : 0 ≤ nn_i (gd_run g a 0 * gd_run g b 1 - gd_run g a 1 * gd_run g b 0) ↔ 0 ≤ cx_w g a b := nn_i_le (a := 0) (nn_I_ab (by decide)) (nn_I_ab (by unfold cx_w at m1; omega))
    rw [l0]
    refine ⟨fun q => ?_, fun q => ?_⟩
    · exact m_isCross135 (σ := 1) hok ((mx_g x1).trans hg) ha hb hs0 (Or.inl ⟨rfl, q⟩) wo_i_eq (fun z u hu h16 => k1 z u (mx_tr x1 hu) h16) (fun z u hu => k0 z u (mx_tr x1 hu))
    · exact m_isCross135 (σ := -1) hok ((mx_g x1).trans hg) ha hb hs0 (Or.inr ⟨rfl, by omega⟩) wo_i_eq (fun z u hu h16 => k1 z u (mx_tr x1 hu) h16) (fun z u hu => k0 z u (mx_tr x1 hu))
  apply en_X7_isCross
  have q1 : ∀ x y : Nat, x < 5 → y < 5 → nI x = nI y → x = y := fun x y hx hy e => (nI_eq (by omega) (by omega)).mp e
  refine m_lesser (by omega) (m_lesser (by omega) ⟨fun e => go 0 (Or.inl ⟨rfl, fun z => (cx_apart z).1 (q1 _ _ (by omega) (by omega) e)⟩), fun _ => m_lesser (by omega) (m_greater (by omega) ⟨fun e => go 0 (Or.inl ⟨rfl, fun z => (cx_apart z).2.1 (q1 _ _ (by omega) (by omega) e)⟩), fun _ => m_greater (by omega) (m_lesser (by omega) ⟨fun e => go 0 (Or.inl ⟨rfl, fun z => (cx_apart z).2.2.1 (q1 _ _ (by omega) (by omega) e)⟩), fun _ => m_greater (by omega) (m_greater (by omega) ⟨fun e => go 0 (Or.inl ⟨rfl, fun z => (cx_apart z).2.2.2 (q1 _ _ (by omega) (by omega) e)⟩), fun _ => go 1 (Or.inr rfl)⟩)⟩)⟩)⟩)
def cx_r (k : Nat) (R : List (Nat × Nat)) (p : Nat) (f r : Int32) : Prop := (∃ i ab, R[i]? = some ab ∧ k = p + i ∧ r = nI (16 * ab.1 + ab.2)) ∨ ((k < p ∨ p + R.length ≤ k) ∧ r = f)
theorem cx_r_ne {k : Nat} {R : List (Nat × Nat)} {ab : Nat × Nat} {p : Nat} {f r : Int32} (hne : ¬ k = p) (h : cx_r k R (p + 1) f r) : cx_r k (ab :: R) p f r := by
  rcases h with ⟨i, cd, h1, h2, h3⟩ | ⟨h1, h2⟩
  · exact Or.inl ⟨i + 1, cd, by simpa using h1, by omega, h3⟩
  · exact Or.inr ⟨by rw [List.length_cons]; omega, h2⟩
theorem cx_r_eq {k : Nat} {R : List (Nat × Nat)} {ab : Nat × Nat} {p : Nat} {f r : Int32} (he : k = p) (h : cx_r k R (p + 1) (nI (16 * ab.1 + ab.2)) r) : cx_r k (ab :: R) p f r := by
  rcases h with ⟨i, cd, h1, h2, h3⟩ | ⟨h1, h2⟩
  · omega
  · exact Or.inl ⟨0, ab, rfl, by omega, h2⟩
theorem m_crossing {P : Int32 → wo_T → Prop} (h : gm_ok w) {S k : Nat} (hS : S < 2 ^ gd_m (gm_g w)) (hk : k < 2147483648) (kk : ∀ u r, mx w u → cx_r k (cx_l (gm_g w) S) 0 (-1) r → P r u) : jj_Ci K mX7_crossing [.ref 58, .int (nI k), .int (nI S)] w P := by
  have hok := h.1
  have hm := gd_m_le hok
  obtain ⟨e10, e11⟩ := ev_lt hm
  have hgu : ∀ u, mx w u → gm_g u = gm_g w := fun u hu => mx_g hu
  have hou : ∀ u, mx w u → gm_ok u := fun u hu => gm_ok_eq (mq_s (mx_mq hu)) h
  generalize hg : gm_g w = g at *
  have sub0 : ∀ x : Int32, x - 0 = x := fun x => by simp
  have inner : ∀ a T, a < gd_m g → (∀ p f z, p ≤ 10 * (a + 1) → mx w z → (∀ u r, mx w u → cx_r k T p f r → P r u) → jj_J K mX7_crossing (jj_Ri P) 8 [(0, .ref 58), (1, .int (nI k)), (2, .int (nI S)), (3, .int (nn_i ((k : Int) - p))), (4, .int f), (5, .int (nI (a + 1)))] [] z) →
      ∀ d b p f z, b + d = 10 → b ≤ gd_m g → p ≤ 10 * a + b → mx w z → (∀ u r, mx w u → cx_r k (cx_b g S a b d ++ T) p f r → P r u) → jj_J K mX7_crossing (jj_Ri P) 23 [(0, .ref 58), (1, .int (nI k)), (2, .int (nI S)), (3, .int (nn_i ((k : Int) - p))), (4, .int f), (5, .int (nI a)), (6, .int (nI b))] [] z := by
    intro a T ha hout d
    induction d with
    | zero =>
      intro b p f z hb hbm hp hz hk'
      apply vc_X7_crossing_23
      refine m_pairs (hou z hz) ?_
      rw [hgu z hz, nn_ad1]
      exact ⟨fun _ => hout p f z (by omega) hz hk', fun q => absurd (nI_le (by omega) (by omega)) q⟩
    | succ d ih =>
      intro b p f z hb hbm hp hz hk'
      apply vc_X7_crossing_23
      refine m_pairs (hou z hz) ?_
      rw [hgu z hz, nn_ad1, nn_ad1, nn_bit1 (by omega) (by omega), nn_bit1 (by omega) (by omega), sub0]
      rcases Nat.lt_or_ge b (gd_m g) with hlt | hge
      · have sk : ∀ z', mx w z' → ¬ (S.testBit a = true ∧ S.testBit b = true ∧ cx_x g a b) → jj_J K mX7_crossing (jj_Ri P) 23 [(0, .ref 58), (1, .int (nI k)), (2, .int (nI S)), (3, .int (nn_i ((k : Int) - p))), (4, .int f), (5, .int (nI a)), (6, .int (nI (b + 1)))] [] z' := fun z' hz' q => ih (b + 1) p f z' (by omega) (by omega) (by omega) hz' (fun u r hu hr => hk' u r hu (by rw [cx_b_n q]; exact hr))
        refine ⟨fun q => absurd q (nI_ge hlt (by omega)), fun _ => ⟨fun q x ex => ?_, fun qa => ⟨fun q x ex => ?_, fun qb => ?_⟩⟩⟩
        · rw [ex]; exact sk z hz (fun t => q t.1)
        · rw [ex]; exact sk z hz (fun t => q t.2.1)
        · refine m_isCross hok (hgu z hz) ha hlt (fun hx u hu h16 => ⟨fun q => absurd q (by decide), fun _ => ?_⟩) (fun hx u hu => ⟨fun _ x ex => ?_, fun q => absurd rfl q⟩)
          · have ec : cx_b g S a b (d + 1) = (a, b) :: cx_b g S a (b + 1) d := cx_b_y ⟨qa, qb, hx⟩
            have e0 : nn_i ((k : Int) - p) = 0 ↔ k = p := by
              rw [show (0 : Int32) = nn_i 0 from rfl, nn_i_eq ⟨by omega, by omega⟩ ⟨by decide, by decide⟩]
              omega
            have e1 : nn_i ((k : Int) - p) - 1 = nn_i ((k : Int) - (p + 1 : Nat)) := by
              rw [show (1 : Int32) = nn_i 1 from rfl, nn_i_sub]
              congr 1
              omega
            have e16 : 16 * nI a + nI b = nI (16 * a + b) := by
              have : 16 * nI a = nI (16 * a) := pk_mul 16 a
              rw [this, nI_add]
            rw [e0, e1, e16]
            refine ⟨fun q x ex => ?_, fun q x ex y ey => ?_⟩
            · rw [ex]
              exact ih (b + 1) (p + 1) f u (by omega) (by omega) (by omega) (mx_tr hz hu) (fun u' r hu' hr => hk' u' r hu' (by rw [ec]; exact cx_r_ne q hr))
            · rw [ex, ey]
              exact ih (b + 1) (p + 1) (nI (16 * a + b)) u (by omega) (by omega) (by omega) (mx_tr hz hu) (fun u' r hu' hr => hk' u' r hu' (by rw [ec]; exact cx_r_eq (ab := (a, b)) q hr))
          · rw [ex]
            exact sk u (mx_tr hz hu) (fun t => hx t.2.2)
      · refine ⟨fun _ => hout p f z (by omega) hz (fun u r hu hr => hk' u r hu ?_), fun q => absurd (nI_le (by omega) (by omega)) q⟩
        rw [cx_b_big hS _ _ hge]
        exact hr
  have outer : ∀ d a p f z, a + d = 10 → a ≤ gd_m g → p ≤ 10 * a → mx w z → (∀ u r, mx w u → cx_r k (cx_a g S a d) p f r → P r u) → jj_J K mX7_crossing (jj_Ri P) 8 [(0, .ref 58), (1, .int (nI k)), (2, .int (nI S)), (3, .int (nn_i ((k : Int) - p))), (4, .int f), (5, .int (nI a))] [] z := by
    intro d
    induction d with
    | zero =>
      intro a p f z ha ham hp hz hk'
      apply vc_X7_crossing_8
      refine m_pairs (hou z hz) ?_
      rw [hgu z hz]
      refine ⟨fun _ => hk' z f hz (Or.inr ⟨?_, rfl⟩), fun q => absurd (nI_le (by omega) (by omega)) q⟩
      show k < p ∨ p + 0 ≤ k
      omega
    | succ d ih =>
      intro a p f z ha ham hp hz hk'
      apply vc_X7_crossing_8
      refine m_pairs (hou z hz) ?_
      rw [hgu z hz]
      rcases Nat.lt_or_ge a (gd_m g) with hlt | hge
      · refine ⟨fun q => absurd q (nI_ge hlt (by omega)), fun _ x ex => ?_⟩
        rw [ex, nn_ad1]
        exact inner a (cx_a g S (a + 1) d) hlt (fun p' f' z' hp' hz' hk2 => ih (a + 1) p' f' z' (by omega) (by omega) hp' hz' hk2) (9 - a) (a + 1) p f z (by omega) (by omega) (by omega) hz hk'
      · refine ⟨fun _ => hk' z f hz (Or.inr ⟨?_, rfl⟩), fun q => absurd (nI_le (by omega) (by omega)) q⟩
        rw [cx_a_big hS _ _ hge]
        show k < p ∨ p + 0 ≤ k
        omega
  apply en_X7_crossing
  have ek : nI k = nn_i ((k : Int) - (0 : Nat)) := by rw [nn_nI, show ((k : Int) - (0 : Nat)) = k by omega]
  have := outer 10 0 0 (-1) w (by omega) (by omega) (by omega) (mx_rf w) kk
  rw [← ek] at this
  exact this
end

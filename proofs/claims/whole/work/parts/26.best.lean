/-! ===== comparing volumes ===== -/
def gd_lt (g : gd_T) (S T : Nat) : Prop := ∃ a b a' b', gd_vol g S a b ∧ gd_vol g T a' b' ∧ a * b' < a' * b
theorem xs_lt_mul {a b c : Int} (hc : 0 < c) : a < b ↔ c * a < c * b := ⟨fun h => Int.mul_lt_mul_of_pos_left h hc, fun h => Int.lt_of_mul_lt_mul_left h (Int.le_of_lt hc)⟩
theorem gd_lt_iff {g : gd_T} {S T : Nat} {a b a' b' : Int} (hS : gd_ind g S) (hT : gd_ind g T) (h : gd_vol g S a b) (h' : gd_vol g T a' b') : gd_lt g S T ↔ a * b' < a' * b := by
  constructor
  · rintro ⟨c, d, c', d', k, k', hlt⟩
    have e1 := gd_vol_same hS h k
    have e2 := gd_vol_same hT h' k'
    have hb := h.1
    have hb' := h'.1
    have hd := k.1
    have hd' := k'.1
    rw [xs_lt_mul (Int.mul_pos hd hd')]
    rw [xs_lt_mul (Int.mul_pos hb hb')] at hlt
    have f1 : d * d' * (a * b') = (a * d) * (b' * d') := by grind
    have f2 : d * d' * (a' * b) = (a' * d') * (b * d) := by grind
    have f3 : b * b' * (c * d') = (c * b) * (b' * d') := by grind
    have f4 : b * b' * (c' * d) = (c' * b') * (b * d) := by grind
    rw [f1, f2, e1, e2, ← f3, ← f4]
    exact hlt
  · intro hlt
    exact ⟨a, b, a', b', h, h', hlt⟩
theorem xs_tr1 {a b a' b' a2 b2 : Int} (hb : 0 < b) (hb' : 0 < b') (hb2 : 0 < b2) (h1 : a * b' < a' * b) (h2 : ¬ a2 * b' < a' * b2) : a * b2 < a2 * b := by
  rw [xs_lt_mul hb']
  have h3 : a * b' * b2 < a' * b * b2 := Int.mul_lt_mul_of_pos_right h1 hb2
  have h4 : a' * b2 * b ≤ a2 * b' * b := Int.mul_le_mul_of_nonneg_right (by omega) (Int.le_of_lt hb)
  have f1 : b' * (a * b2) = a * b' * b2 := by grind
  have f2 : b' * (a2 * b) = a2 * b' * b := by grind
  have f3 : a' * b * b2 = a' * b2 * b := by grind
  omega
theorem xs_tr2 {a b a' b' a2 b2 : Int} (hb : 0 < b) (hb' : 0 < b') (hb2 : 0 < b2) (h1 : ¬ a' * b < a * b') (h2 : a' * b2 < a2 * b') : a * b2 < a2 * b := by
  rw [xs_lt_mul hb']
  have h3 : a * b' * b2 ≤ a' * b * b2 := Int.mul_le_mul_of_nonneg_right (by omega) (Int.le_of_lt hb2)
  have h4 : a' * b2 * b < a2 * b' * b := Int.mul_lt_mul_of_pos_right h2 hb
  have f1 : b' * (a * b2) = a * b' * b2 := by grind
  have f2 : b' * (a2 * b) = a2 * b' * b := by grind
  have f3 : a' * b * b2 = a' * b2 * b := by grind
  omega
theorem xs_tr3 {a b a' b' a2 b2 : Int} (hb : 0 < b) (hb' : 0 < b') (hb2 : 0 < b2) (h1 : ¬ a' * b < a * b') (h2 : ¬ a2 * b' < a' * b2) : ¬ a2 * b < a * b2 := by
  rw [xs_lt_mul hb']
  have h3 : a * b' * b2 ≤ a' * b * b2 := Int.mul_le_mul_of_nonneg_right (by omega) (Int.le_of_lt hb2)
  have h4 : a' * b2 * b ≤ a2 * b' * b := Int.mul_le_mul_of_nonneg_right (by omega) (Int.le_of_lt hb)
  have f1 : b' * (a * b2) = a * b' * b2 := by grind
  have f2 : b' * (a2 * b) = a2 * b' * b := by grind
  have f3 : a' * b * b2 = a' * b2 * b := by grind
  omega
/-- S is ahead of T: less volume, or as much and less as bits -/
def gd_le (g : gd_T) (S T : Nat) : Prop := gd_lt g S T ∨ (¬ gd_lt g T S ∧ S ≤ T)
theorem gd_le_tr {g : gd_T} {S T X : Nat} (hS : gd_brs g S) (hT : gd_brs g T) (hX : gd_brs g X) (h1 : gd_le g T S) (h2 : gd_le g S X) : gd_le g T X := by
  obtain ⟨a, b, hv⟩ := gd_vol_ex hS
  obtain ⟨a', b', hv'⟩ := gd_vol_ex hT
  obtain ⟨a2, b2, hv2⟩ := gd_vol_ex hX
  unfold gd_le at *
  rw [gd_lt_iff hT.1 hS.1 hv' hv, gd_lt_iff hS.1 hT.1 hv hv'] at h1
  rw [gd_lt_iff hS.1 hX.1 hv hv2, gd_lt_iff hX.1 hS.1 hv2 hv] at h2
  rw [gd_lt_iff hT.1 hX.1 hv' hv2, gd_lt_iff hX.1 hT.1 hv2 hv']
  rcases h1 with h1 | ⟨h1, h1'⟩
  · rcases h2 with h2 | ⟨h2, h2'⟩
    · refine Or.inl (xs_tr1 hv'.1 hv.1 hv2.1 h1 ?_)
      omega
    · exact Or.inl (xs_tr1 hv'.1 hv.1 hv2.1 h1 h2)
  · rcases h2 with h2 | ⟨h2, h2'⟩
    · exact Or.inl (xs_tr2 hv'.1 hv.1 hv2.1 h1 h2)
    · exact Or.inr ⟨xs_tr3 hv'.1 hv.1 hv2.1 h1 h2, Nat.le_trans h1' h2'⟩
theorem gd_le_rf {g : gd_T} {S : Nat} (hS : gd_brs g S) : gd_le g S S := by
  obtain ⟨a, b, hv⟩ := gd_vol_ex hS
  refine Or.inr ⟨?_, Nat.le_refl _⟩
  rw [gd_lt_iff hS.1 hS.1 hv hv]
  omega
/-! ===== what a search among the kept sets answers ===== -/
def bn_a (g : gd_T) (L : List Nat) (B : Nat) (v : Int32) : Prop := (v = -1 ∧ ∀ S, S ∈ L → ¬ gd_sub S B) ∨ ∃ i S, v = nI i ∧ L[i]? = some S ∧ gd_sub S B ∧ ∀ T, T ∈ L → gd_sub T B → gd_le g S T
def bn_c (g : gd_T) (w : wo_T) (o : Nat) (L : List Nat) : Prop := w.1 o 8 = -1 ∨ ∃ B, B < 1024 ∧ w.1 o 8 = nI B ∧ bn_a g L B (w.1 o 9)
/-- all sets without a bar to spare within A -/
def bn_F (g : gd_T) (A : Nat) (L : List Nat) : Prop := (∀ S, S ∈ L → gd_val g S ∧ S < 2 ^ gd_m g ∧ gd_sub S A) ∧ ∀ T, T < 2 ^ gd_m g → gd_sub T A → gd_val g T → T ∈ L
theorem bn_none {g : gd_T} (hok : gd_ok g) {A : Nat} {L : List Nat} (hF : bn_F g A L) {B : Nat} (hB : gd_sub B A) (h : ∀ S, S ∈ L → ¬ gd_sub S B) : gd_none g B := gd_noneV (gd_m_le hok) (fun T h1 h2 h3 => h T (hF.2 T h1 (gd_sub_trans h2 hB) h3) h2)
theorem bn_best {g : gd_T} (hok : gd_ok g) {A : Nat} {L : List Nat} (hF : bn_F g A L) {B S : Nat} (hB : gd_sub B A) (hS : S ∈ L) (hsub : gd_sub S B) (h : ∀ T, T ∈ L → gd_sub T B → gd_le g S T) : gd_best g B S := by
  refine gd_bestV (gd_m_le hok) ⟨hsub, (hF.1 S hS).2.1, (hF.1 S hS).1, fun T h1 h2 h3 a b a' b' hv hv' => ?_⟩
  have hbS := gd_val_brs (hF.1 S hS).1
  have hbT := gd_val_brs h3
  have h4 := h T (hF.2 T h1 (gd_sub_trans h2 hB) h3) h2
  unfold gd_le at h4
  rw [gd_lt_iff hbS.1 hbT.1 hv hv', gd_lt_iff hbT.1 hbS.1 hv' hv] at h4
  omega
section
variable {K : jj_K} {w : wo_T} {g : gd_T} {A o : Nat} {L : List Nat}
theorem c_isDearer {P : Int32 → wo_T → Prop} (ho : o = 23 ∨ o = 29) (hok : gd_ok g) (hbk : bk_L g A w o L) {i j S T : Nat} (hi : L[i]? = some S) (hj : L[j]? = some T) (k1 : gd_lt g T S → P 1 w) (k0 : ¬ gd_lt g T S → P 0 w) : jj_Ci K mX0_isDearer [.ref o, .int (nI i), .int (nI j)] w P := by
  have h252 := bk_252 hok hbk.2.2.2 (fun S hS => ⟨(hbk.2.2.1 S hS).1, (hbk.2.2.1 S hS).2.1⟩)
  have hil := (List.getElem?_eq_some_iff.mp hi).1
  have hjl := (List.getElem?_eq_some_iff.mp hj).1
  have hvS := gd_val_brs (hbk.2.2.1 S (List.mem_of_getElem? hi)).1
  have hvT := gd_val_brs (hbk.2.2.1 T (List.mem_of_getElem? hj)).1
  obtain ⟨a, b, -, e2, e3, hv, a0, a1, b0, b1⟩ := hbk.2.1 i S hi
  obtain ⟨a', b', -, f2, f3, hv', c0, c1, d0, d1⟩ := hbk.2.1 j T hj
  rw [gd_lt_iff hvT.1 hvS.1 hv' hv] at k1 k0
  apply en_X0_isDearer P o ho
  have m1 := xs_mul (a := a) (b := b') (A := 34359738368) (B := 2097153) (by omega) a1 (by omega) d1
  have m2 := xs_mul (a := a') (b := b) (A := 34359738368) (B := 2097153) (by omega) c1 (by omega) b1
  rw [nI_clamp (n := i) (by omega), nI_clamp (n := j) (by omega), e2, e3, f2, f3, nn_l_mul, nn_l_mul, nn_l_le (nn_L_of _ (by decide) m1.1 m1.2) (nn_L_of _ (by decide) m2.1 m2.2)]
  refine ⟨fun q => absurd q (nI_pos (by omega)), fun _ => ⟨fun _ => ⟨nn_inn (by omega) (by decide), nn_inn (by omega) (by decide), nn_inn (by omega) (by decide), nn_inn (by omega) (by decide), fun h => k0 (by omega), fun h => k1 (by omega)⟩, fun q => absurd (nI_pos' (by omega)) q⟩⟩
theorem c_isDearerN {P : Int32 → wo_T → Prop} (ho : o = 23 ∨ o = 29) {j : Nat} (hj : j < 1000) (k : P 1 w) : jj_Ci K mX0_isDearer [.ref o, .int (-1), .int (nI j)] w P := by
  apply en_X0_isDearer P o ho
  exact ⟨fun _ => ⟨fun q => absurd q (by decide), fun _ => ⟨fun q => absurd q (nI_pos (by omega)), fun _ => k⟩⟩, fun q => absurd (by decide) q⟩
theorem c_leastWithin {P : Int32 → wo_T → Prop} (ho : o = 23 ∨ o = 29) (hok : gd_ok g) (hbk : bk_L g A w o L) (hc : bn_c g w o L) {B : Nat} (hB : B < 1024)
    (k : ∀ u v, wo_fr [o] [] w u → (∀ j, j ≠ 8 → j ≠ 9 → u.1 o j = w.1 o j) → bn_c g u o L → bn_a g L B v → P v u) : jj_Ci K mX0_leastWithin [.ref o, .int (nI B)] w P := by
  have h252 := bk_252 hok hbk.2.2.2 (fun S hS => ⟨(hbk.2.2.1 S hS).1, (hbk.2.2.1 S hS).2.1⟩)
  have hm := gd_m_le hok
  apply en_X0_leastWithin P o ho
  refine ⟨fun _ => ?_, fun hcache => ?_⟩
  · have hbr : ∀ S, S ∈ L → gd_brs g S := fun S hS => gd_val_brs (hbk.2.2.1 S hS).1
    have hS1024 : ∀ S, S ∈ L → S < 1024 := fun S hS => Nat.lt_of_lt_of_le (hbk.2.2.1 S hS).2.1 (Nat.pow_le_pow_right (by decide) hm (n := 2))
    have loop : ∀ d i v, i + d = L.length → ((v = -1 ∧ ∀ j S, j < i → L[j]? = some S → ¬ gd_sub S B) ∨ ∃ b S, v = nI b ∧ b < i ∧ L[b]? = some S ∧ gd_sub S B ∧ ∀ j T, j < i → L[j]? = some T → gd_sub T B → gd_le g S T) →
        jj_J K mX0_leastWithin (jj_Ri P) 17 [(0, .ref o), (1, .int (nI B)), (2, .int v), (3, .int (nI i))] [] w := by
      intro d
      induction d with
      | zero =>
        intro i v hi hv
        apply vc_X0_leastWithin_17 P o ho
        rw [hbk.1]
        refine ⟨fun _ => ?_, fun q => absurd (nI_le (by omega) (by omega)) q⟩
        have ha : bn_a g L B v := by
          rcases hv with ⟨e, h⟩ | ⟨b, S, e, -, h1, h2, h3⟩
          · refine Or.inl ⟨e, fun S hS => ?_⟩
            obtain ⟨j, hj⟩ := List.getElem?_of_mem hS
            exact h j S (by have := (List.getElem?_eq_some_iff.mp hj).1; omega) hj
          · refine Or.inr ⟨b, S, e, h1, h2, fun T hT hT2 => ?_⟩
            obtain ⟨j, hj⟩ := List.getElem?_of_mem hT
            exact h3 j T (by have := (List.getElem?_eq_some_iff.mp hj).1; omega) hj hT2
        refine k _ v (wo_fr_i (wo_fr_i (wo_fr_rf _ _ w) (by simp) _ _) (by simp) _ _) (fun j h8 h9 => ?_) (Or.inr ⟨B, hB, ?_, ?_⟩) ha
        · rw [wo_i_nk (by omega), wo_i_nk (by omega)]
        · rw [wo_i_nk (by omega), wo_i_eq]
        · rw [wo_i_eq]; exact ha
      | succ d ih =>
        intro i v hi hv
        have hil : i < L.length := by omega
        have hg : L[i]? = some L[i] := List.getElem?_eq_getElem hil
        generalize L[i] = T at hg
        have hTm := List.mem_of_getElem? hg
        obtain ⟨at', bt, et1, -⟩ := hbk.2.1 i T hg
        apply vc_X0_leastWithin_17 P o ho
        rw [hbk.1, nI_clamp (n := i) (by omega), et1, nn_sub0 (by have := hS1024 T hTm; omega), nn_ad1]
        refine ⟨fun q => absurd q (nI_ge hil (by omega)), fun _ => ⟨nn_inn (by omega) (by decide), fun hsub => ?_, fun hsub => ?_⟩⟩
        · rcases hv with ⟨e, h⟩ | ⟨b, S, e, hb, h1, h2, h3⟩
          · subst e
            refine ⟨fun _ => ih (i + 1) _ (by omega) (Or.inr ⟨i, T, rfl, by omega, hg, hsub, fun j X hj hX hXs => ?_⟩), fun q => absurd (by decide) q⟩
            rcases Nat.lt_or_ge j i with h4 | h4
            · exact absurd hXs (h j X h4 hX)
            · have e : j = i := by omega
              subst e
              rw [hg] at hX; cases hX
              exact gd_le_rf (hbr T hTm)
          · subst e
            have hSm := List.mem_of_getElem? h1
            obtain ⟨as, bs, es1, -⟩ := hbk.2.1 b S h1
            have keepS : gd_le g S T → jj_J K mX0_leastWithin (jj_Ri P) 17 [(0, .ref o), (1, .int (nI B)), (2, .int (nI b)), (3, .int (nI (i + 1)))] [] w := fun hle => ih (i + 1) _ (by omega) (Or.inr ⟨b, S, rfl, by omega, h1, h2, fun j X hj hX hXs => by
              rcases Nat.lt_or_ge j i with h4 | h4
              · exact h3 j X h4 hX hXs
              · have e : j = i := by omega
                subst e
                rw [hg] at hX; cases hX
                exact hle⟩)
            have takeT : gd_le g T S → jj_J K mX0_leastWithin (jj_Ri P) 17 [(0, .ref o), (1, .int (nI B)), (2, .int (nI i)), (3, .int (nI (i + 1)))] [] w := fun hle => ih (i + 1) _ (by omega) (Or.inr ⟨i, T, rfl, by omega, hg, hsub, fun j X hj hX hXs => by
              rcases Nat.lt_or_ge j i with h4 | h4
              · exact gd_le_tr (hbr S hSm) (hbr T hTm) (hbr X (List.mem_of_getElem? hX)) hle (h3 j X h4 hX hXs)
              · have e : j = i := by omega
                subst e
                rw [hg] at hX; cases hX
                exact gd_le_rf (hbr T hTm)⟩)
            refine ⟨fun q => absurd q (nI_pos (by omega)), fun _ => c_isDearer ho hok hbk h1 hg (fun hlt => ⟨fun _ => takeT (Or.inl hlt), fun q => absurd q (by decide)⟩) (fun hnlt => ⟨fun q => absurd rfl q, fun _ => c_isDearer ho hok hbk hg h1 (fun hlt2 => ⟨fun _ => keepS (Or.inl hlt2), fun q => absurd q (by decide)⟩) (fun hnlt2 => ⟨fun q => absurd rfl q, fun _ => ?_⟩)⟩)⟩
            rw [nI_clamp (n := b) (by omega), es1, et1, nI_leI (by have := hS1024 S hSm; omega) (by have := hS1024 T hTm; omega)]
            refine ⟨nn_inn (by omega) (by decide), nn_inn (by omega) (by decide), fun hle => keepS (Or.inr ⟨hnlt, hle⟩), fun hnle => takeT (Or.inr ⟨hnlt2, by omega⟩)⟩
        · refine ih (i + 1) v (by omega) ?_
          rcases hv with ⟨e, h⟩ | ⟨b, S, e, hb, h1, h2, h3⟩
          · refine Or.inl ⟨e, fun j S hj hS => ?_⟩
            rcases Nat.lt_or_ge j i with h4 | h4
            · exact h j S h4 hS
            · have e : j = i := by omega
              subst e
              rw [hg] at hS; cases hS
              exact hsub
          · refine Or.inr ⟨b, S, e, by omega, h1, h2, fun j X hj hX hXs => ?_⟩
            rcases Nat.lt_or_ge j i with h4 | h4
            · exact h3 j X h4 hX hXs
            · have e : j = i := by omega
              subst e
              rw [hg] at hX; cases hX
              exact absurd hXs hsub
    exact loop L.length 0 (-1) (by omega) (Or.inl ⟨rfl, fun j S hj => absurd hj (Nat.not_lt_zero _)⟩)
  · refine k w _ (wo_fr_rf _ _ _) (fun _ _ _ => rfl) hc ?_
    rcases hc with h | ⟨B0, hB0, e, ha⟩
    · rw [h] at hcache
      exact absurd hcache (by
        have := nI_pos (n := B) (by omega)
        intro q
        rw [q] at this
        exact this (by decide))
    · rw [e, nI_eq (by omega) (by omega)] at hcache
      subst hcache
      exact ha
theorem c_asLong {P : Int64 → wo_T → Prop} (a : Int32) (k : P (-9223372036854775808 - a.toInt64) w) : jj_Cl K mX6_asLong [.int a] w P := by
  apply en_X6_asLong
  exact k
theorem c_volumeN {P : Int64 → wo_T → Prop} (ho : o = 23 ∨ o = 29) (a : Int32) (k : P (-9223372036854775808 - (-3 : Int32).toInt64) w) : jj_Cl K mX0_volume [.ref o, .int (-1), .int a] w P := by
  apply en_X0_volume P o ho
  exact ⟨fun q => absurd q (by decide), fun _ => c_asLong (-3) k⟩
theorem c_volume {P : Int64 → wo_T → Prop} (ho : o = 23 ∨ o = 29) (hok : gd_ok g) (hbk : bk_L g A w o L) {i S : Nat} (hi : L[i]? = some S) (c : Int32) (k : ∀ a b, gd_vol g S a b → P (nn_l (if c = 0 then fr_n a b else fr_d a b)) w) : jj_Cl K mX0_volume [.ref o, .int (nI i), .int c] w P := by
  have h252 := bk_252 hok hbk.2.2.2 (fun S hS => ⟨(hbk.2.2.1 S hS).1, (hbk.2.2.1 S hS).2.1⟩)
  have hil := (List.getElem?_eq_some_iff.mp hi).1
  obtain ⟨a, b, -, e2, e3, hv, a0, a1, b0, b1⟩ := hbk.2.1 i S hi
  apply en_X0_volume P o ho
  rw [nI_clamp (n := i) (by omega), e2, e3]
  exact ⟨fun _ => ⟨nn_inn (by omega) (by decide), nn_inn (by omega) (by decide), c_lowest ⟨by omega, by omega⟩ ⟨by omega, by omega⟩ (by omega) c (k a b hv)⟩, fun q => absurd (nI_pos' (by omega)) q⟩
theorem c_difference {P : Int64 → wo_T → Prop} (ho : o = 23 ∨ o = 29) (hok : gd_ok g) (hbk : bk_L g A w o L) {i j S T : Nat} (hi : L[i]? = some S) (hj : L[j]? = some T) (c : Int32) (k : ∀ a b a' b', gd_vol g S a b → gd_vol g T a' b' → P (nn_l (if c = 0 then fr_n (a * b' - a' * b) (b * b') else fr_d (a * b' - a' * b) (b * b'))) w) : jj_Cl K mX0_difference [.ref o, .int (nI i), .int (nI j), .int c] w P := by
  have h252 := bk_252 hok hbk.2.2.2 (fun S hS => ⟨(hbk.2.2.1 S hS).1, (hbk.2.2.1 S hS).2.1⟩)
  have hil := (List.getElem?_eq_some_iff.mp hi).1
  have hjl := (List.getElem?_eq_some_iff.mp hj).1
  obtain ⟨a, b, -, e2, e3, hv, a0, a1, b0, b1⟩ := hbk.2.1 i S hi
  obtain ⟨a', b', -, f2, f3, hv', c0, c1, d0, d1⟩ := hbk.2.1 j T hj
  have m1 := xs_mul (a := a) (b := b') (A := 34359738368) (B := 2097153) (by omega) a1 (by omega) d1
  have m2 := xs_mul (a := a') (b := b) (A := 34359738368) (B := 2097153) (by omega) c1 (by omega) b1
  have m3 := xs_mul (a := b) (b := b') (A := 2097153) (B := 2097153) (by omega) b1 (by omega) d1
  have m4 : 0 < b * b' := Int.mul_pos b0 d0
  apply en_X0_difference P o ho
  rw [nI_clamp (n := i) (by omega), nI_clamp (n := j) (by omega), e2, e3, f2, f3, nn_l_mul, nn_l_mul, nn_l_mul, nn_l_sub]
  refine ⟨fun q => absurd q (nI_pos (by omega)), fun _ => ⟨fun _ => ⟨nn_inn (by omega) (by decide), nn_inn (by omega) (by decide), nn_inn (by omega) (by decide), nn_inn (by omega) (by decide), fun x5 e5 => ⟨nn_inn (by omega) (by decide), nn_inn (by omega) (by decide), ?_⟩⟩, fun q => absurd (nI_pos' (by omega)) q⟩⟩
  subst e5
  exact c_lowest ⟨by omega, by omega⟩ ⟨by omega, by omega⟩ (by omega) c (k a b a' b' hv hv')
end

/-! ===== displacements ===== -/
def hc (w : wo_T) : Nat → Int := fun v => (w.1 5 v).toInt
def hm (w : wo_T) : Nat → Int := fun v => (w.1 63 v).toInt
def h_ok (H : Nat → Int) : Prop := ∀ v, -999 ≤ H v ∧ H v ≤ 999
def sh (g : gd_T) (H : Nat → Int) (v : Nat) : Int := if gd_free g v then H v else 0
def st1 (g : gd_T) (H : Nat → Int) (k ax : Nat) : Int := (sh g H (2 * gd_gre k + ax) - sh g H (2 * gd_les k + ax)) * gd_run g k ax
def st (g : gd_T) (H : Nat → Int) (k : Nat) : Int := st1 g H k 0 + st1 g H k 1
def wk (g : gd_T) (H : Nat → Int) (n : Nat) : Int := gd_s (fun v => g.2.2.2.2 v * sh g H v) n
theorem sh_b {g : gd_T} {H : Nat → Int} (h : h_ok H) (v : Nat) : -999 ≤ sh g H v ∧ sh g H v ≤ 999 := by
  unfold sh
  have := h v
  split <;> omega
theorem st1_b {g : gd_T} (hok : gd_ok g) {H : Nat → Int} (h : h_ok H) {k : Nat} (hk : k < gd_m g) (ax : Nat) : -7992 ≤ st1 g H k ax ∧ st1 g H k ax ≤ 7992 := by
  unfold st1
  have h1 := sh_b (g := g) h (2 * gd_gre k + ax)
  have h2 := sh_b (g := g) h (2 * gd_les k + ax)
  have h3 := gd_run_le hok hk ax
  generalize sh g H (2 * gd_gre k + ax) = a at *
  generalize sh g H (2 * gd_les k + ax) = b at *
  generalize gd_run g k ax = c at *
  have : ((a - b) * c).natAbs ≤ 1998 * 4 := by
    rw [Int.natAbs_mul]
    exact Nat.mul_le_mul (by omega) (by omega)
  omega
theorem st_b {g : gd_T} (hok : gd_ok g) {H : Nat → Int} (h : h_ok H) {k : Nat} (hk : k < gd_m g) : -15984 ≤ st g H k ∧ st g H k ≤ 15984 := by
  have h1 := st1_b hok h hk 0
  have h2 := st1_b hok h hk 1
  unfold st
  omega
theorem wk1_b {g : gd_T} (hok : gd_ok g) {H : Nat → Int} (h : h_ok H) (v : Nat) : -8991 ≤ g.2.2.2.2 v * sh g H v ∧ g.2.2.2.2 v * sh g H v ≤ 8991 := by
  have h1 := sh_b (g := g) h v
  rcases Classical.em (v < 2 * g.1) with hv | hv
  · have h2 := hok.2.2.2 v hv
    have : (g.2.2.2.2 v * sh g H v).natAbs ≤ 9 * 999 := by
      rw [Int.natAbs_mul]
      exact Nat.mul_le_mul (by omega) (by omega)
    omega
  · have : sh g H v = 0 := by
      unfold sh gd_free
      simp [hv]
    rw [this]; omega
theorem wk_b {g : gd_T} (hok : gd_ok g) {H : Nat → Int} (h : h_ok H) : ∀ n : Nat, -(8991 * (n : Int)) ≤ wk g H n ∧ wk g H n ≤ 8991 * (n : Int)
  | 0 => by simp [wk, gd_s]
  | n + 1 => by
    have h1 := wk1_b hok h n
    have h2 := wk_b hok h n
    have e : wk g H (n + 1) = wk g H n + g.2.2.2.2 n * sh g H n := rfl
    rw [e]
    push_cast
    omega
theorem wk_stop {g : gd_T} (hok : gd_ok g) (H : Nat → Int) : ∀ d, wk g H (2 * g.1 + d) = wk g H (2 * g.1)
  | 0 => rfl
  | d + 1 => by
    have e : wk g H (2 * g.1 + (d + 1)) = wk g H (2 * g.1 + d) + g.2.2.2.2 (2 * g.1 + d) * sh g H (2 * g.1 + d) := rfl
    have z : sh g H (2 * g.1 + d) = 0 := by
      unfold sh gd_free
      simp
      intro q; omega
    rw [e, z, wk_stop hok H d]; simp
theorem wk_10 {g : gd_T} (hok : gd_ok g) (H : Nat → Int) : wk g H (2 * g.1) = wk g H 10 := by
  have := wk_stop hok H (10 - 2 * g.1)
  have e : 2 * g.1 + (10 - 2 * g.1) = 10 := by have := hok.1; omega
  rw [e] at this
  exact this.symm
def wn (g : gd_T) : Nat → Nat
  | 0 => 0
  | n + 1 => wn g n + if gd_free g n then 1 else 0
theorem wn_le (g : gd_T) : ∀ n, wn g n ≤ n
  | 0 => Nat.le_refl _
  | n + 1 => by
    have := wn_le g n
    simp only [wn]
    split <;> omega
theorem wn_stop {g : gd_T} : ∀ d, wn g (2 * g.1 + d) = wn g (2 * g.1)
  | 0 => rfl
  | d + 1 => by
    have e : wn g (2 * g.1 + (d + 1)) = wn g (2 * g.1 + d) + if gd_free g (2 * g.1 + d) then 1 else 0 := rfl
    have z : gd_free g (2 * g.1 + d) = false := by
      unfold gd_free
      simp
      intro q; omega
    rw [e, z, wn_stop d]; simp
theorem wn_10 {g : gd_T} (hok : gd_ok g) : wn g (2 * g.1) = wn g 10 := by
  have := wn_stop (g := g) (10 - 2 * g.1)
  have e : 2 * g.1 + (10 - 2 * g.1) = 10 := by have := hok.1; omega
  rw [e] at this
  exact this.symm
section
variable {K : jj_K} {w : wo_T}
theorem c_freeShift {P : Int32 → wo_T → Prop} (h : gc_ok w) {v : Nat} (hv : v < 2 * (gc_g w).1) (k : P (nn_i (sh (gc_g w) (hc w) v)) w) : jj_Ci K mX3_freeShift [.ref 1, .int (nI v)] w P := by
  have hn := gc_n h
  apply en_X3_freeShift
  refine c_isFree h v hv ?_
  unfold sh at k
  rw [nI_clamp (by omega)]
  have e : w.1 5 v = nn_i (hc w v) := nn_i_of _
  cases hf : gd_free (gc_g w) v with
  | false =>
    rw [hf] at k
    exact ⟨fun _ => k, fun q => absurd rfl q⟩
  | true =>
    rw [hf] at k
    rw [e]
    exact ⟨fun q => absurd q (by decide), fun _ => ⟨nn_inn (by omega) (by decide), k⟩⟩
theorem m_shiftAt {P : Int32 → wo_T → Prop} (h : gm_ok w) {v : Nat} (hv : v < 10) (k : P (nn_i (sh (gm_g w) (hm w) v)) w) : jj_Ci K mX7_shiftAt [.ref 58, .int (nI v)] w P := by
  apply en_X7_shiftAt
  refine m_isWay h v hv ?_
  unfold sh at k
  rw [nI_clamp (by omega)]
  have e : w.1 63 v = nn_i (hm w v) := nn_i_of _
  cases hf : gd_free (gm_g w) v with
  | false =>
    rw [hf] at k
    exact ⟨fun _ => k, fun q => absurd rfl q⟩
  | true =>
    rw [hf] at k
    rw [e]
    exact ⟨fun q => absurd q (by decide), fun _ => ⟨nn_inn (by omega) (by decide), k⟩⟩
theorem c_stretchParts {P : Int64 → wo_T → Prop} (h : gc_ok w) (hH : h_ok (hc w)) {j : Nat} (hj : j < gd_m (gc_g w)) (k : P (nn_l (st (gc_g w) (hc w) j)) w) : jj_Cl K mX3_stretchParts [.ref 1, .int (nI j)] w P := by
  have hm := gc_m h
  have hn := gc_n h
  have hgl := gd_gre_lt h.1 hj
  have hlg := gd_les_gre j (by omega)
  have hb := st_b h.1 hH hj
  apply en_X3_stretchParts
  have step : ∀ (a : Int) (ax : Nat), ax < 2 → jj_J K mX3_stretchParts (jj_Rl P) 4 [(0, .ref 1), (1, .int (nI j)), (2, .int (nn_i (a + st1 (gc_g w) (hc w) j ax))), (3, .int (nI (ax + 1)))] [] w → jj_J K mX3_stretchParts (jj_Rl P) 4 [(0, .ref 1), (1, .int (nI j)), (2, .int (nn_i a)), (3, .int (nI ax))] [] w := by
    intro a ax hax nx
    apply vc_X3_stretchParts_4
    rw [nI_clamp (n := j) (by omega), wo_gre_n j (by omega), wo_les_n j (by omega), nn_two, nn_two, nn_two, nI_add, nI_add, nI_add, nI_clamp (n := 2 * j + ax) (by omega), nn_ad1]
    refine ⟨fun q => absurd q (nI_ge (b := 2) hax (by decide)), fun _ => ⟨nn_inn (by omega) (by decide), c_freeShift h (by omega) ⟨nn_inn (by omega) (by decide), c_freeShift h (by omega) (fun x6 e6 => ⟨nn_inn (by omega) (by decide), fun x7 e7 => ?_⟩)⟩⟩⟩
    rw [nn_i_sub] at e6
    subst e6
    rw [gc_run h hj hax, nn_i_mul, nn_i_add] at e7
    subst e7
    exact nx
  refine step 0 0 (by decide) (step _ 1 (by decide) ?_)
  apply vc_X3_stretchParts_4
  refine ⟨fun _ => ?_, fun q => absurd (by decide) q⟩
  have e : 0 + st1 (gc_g w) (hc w) j 0 + st1 (gc_g w) (hc w) j 1 = st (gc_g w) (hc w) j := by unfold st; omega
  rw [e, nn_i_l ⟨by omega, by omega⟩]
  exact k
theorem m_stretchOf {P : Int32 → wo_T → Prop} (h : gm_ok w) {j : Nat} (hj : j < gd_m (gm_g w)) (k : P (nn_i (st (gm_g w) (hm w) j)) w) : jj_Ci K mX7_stretchOf [.ref 58, .int (nI j)] w P := by
  have hm' := gm_m h
  have hlg := gd_les_gre j (by omega)
  apply en_X7_stretchOf
  have step : ∀ (a : Int) (ax : Nat), ax < 2 → jj_J K mX7_stretchOf (jj_Ri P) 4 [(0, .ref 58), (1, .int (nI j)), (2, .int (nn_i (a + st1 (gm_g w) (hm w) j ax))), (3, .int (nI (ax + 1)))] [] w → jj_J K mX7_stretchOf (jj_Ri P) 4 [(0, .ref 58), (1, .int (nI j)), (2, .int (nn_i a)), (3, .int (nI ax))] [] w := by
    intro a ax hax nx
    apply vc_X7_stretchOf_4
    rw [nn_ad1]
    refine ⟨fun q => absurd q (nI_ge (b := 2) hax (by decide)), fun _ => m_greater (by omega) ?_⟩
    rw [nn_two, nI_add]
    refine m_shiftAt h (by omega) (m_lesser (by omega) ?_)
    rw [nn_two, nI_add]
    refine m_shiftAt h (by omega) (m_far (by omega) hax (fun x ex => ?_))
    rw [nn_i_sub, nn_i_mul, nn_i_add] at ex
    subst ex
    exact nx
  refine step 0 0 (by decide) (step _ 1 (by decide) ?_)
  apply vc_X7_stretchOf_4
  refine ⟨fun _ => ?_, fun q => absurd (by decide) q⟩
  have e : 0 + st1 (gm_g w) (hm w) j 0 + st1 (gm_g w) (hm w) j 1 = st (gm_g w) (hm w) j := by unfold st; omega
  rw [e]
  exact k
theorem c_workParts {P : Int64 → wo_T → Prop} (h : gc_ok w) (hH : h_ok (hc w)) (k : P (nn_l (wk (gc_g w) (hc w) 10)) w) : jj_Cl K mX3_workParts [.ref 1] w P := by
  have hn := gc_n h
  have hb := wk_b h.1 hH 10
  apply en_X3_workParts
  have loop : ∀ d v, v + d = 2 * (gc_g w).1 → jj_J K mX3_workParts (jj_Rl P) 4 [(0, .ref 1), (1, .int (nn_i (wk (gc_g w) (hc w) v))), (2, .int (nI v))] [] w := by
    intro d
    induction d with
    | zero =>
      intro v hv
      have e : v = 2 * (gc_g w).1 := by omega
      subst e
      apply vc_X3_workParts_4
      rw [h.2.1, nn_two, wk_10 h.1, nn_i_l ⟨by omega, by omega⟩]
      exact ⟨fun _ => k, fun q => absurd (nI_le (Nat.le_refl _) (by omega)) q⟩
    | succ d ih =>
      intro v hv
      apply vc_X3_workParts_4
      rw [h.2.1, nn_two, nI_clamp (by omega), nn_ad1]
      refine ⟨fun q => absurd q (nI_ge (by omega) (by omega)), fun _ => ⟨nn_inn (by omega) (by decide), c_freeShift h (by omega) (fun x ex => ?_)⟩⟩
      have e : w.1 4 v = nn_i ((gc_g w).2.2.2.2 v) := nn_i_of _
      rw [e, nn_i_mul, nn_i_add] at ex
      subst ex
      exact ih (v + 1) (by omega)
  exact loop (2 * (gc_g w).1) 0 (by omega)
theorem m_workNow {P : Int32 → wo_T → Prop} (h : gm_ok w) (k : P (nn_i (wk (gm_g w) (hm w) 10)) w) : jj_Ci K mX7_workNow [.ref 58] w P := by
  apply en_X7_workNow
  have loop : ∀ d v, v + d = 10 → jj_J K mX7_workNow (jj_Ri P) 4 [(0, .ref 58), (1, .int (nn_i (wk (gm_g w) (hm w) v))), (2, .int (nI v))] [] w := by
    intro d
    induction d with
    | zero =>
      intro v hv
      have e : v = 10 := by omega
      subst e
      apply vc_X7_workNow_4
      exact ⟨fun _ => k, fun q => absurd (by decide) q⟩
    | succ d ih =>
      intro v hv
      have nx := ih (v + 1) (by omega)
      have e : wk (gm_g w) (hm w) (v + 1) = wk (gm_g w) (hm w) v + (gm_g w).2.2.2.2 v * sh (gm_g w) (hm w) v := rfl
      rw [e] at nx
      apply vc_X7_workNow_4
      refine ⟨fun q => absurd q (nI_ge (b := 10) (by omega) (by decide)), fun _ => m_isWay h v (by omega) ?_⟩
      rw [nI_clamp (by omega), nn_ad1]
      cases hf : gd_free (gm_g w) v with
      | false =>
        refine ⟨fun _ x ex => ?_, fun q => absurd rfl q⟩
        have z : sh (gm_g w) (hm w) v = 0 := by unfold sh; rw [hf]; rfl
        rw [z, Int.mul_zero, Int.add_zero] at nx
        have ex2 : x = nn_i (wk (gm_g w) (hm w) v) := by rw [ex]; exact Int32.add_zero _
        rw [ex2]
        exact nx
      | true =>
        refine ⟨fun q => absurd q (by decide), fun _ => ⟨nn_inn (by omega) (by decide), nn_inn (by omega) (by decide), fun x ex => ?_⟩⟩
        have z : sh (gm_g w) (hm w) v = hm w v := by unfold sh; rw [hf]; rfl
        rw [z] at nx
        have e1 : w.1 62 v = nn_i ((gm_g w).2.2.2.2 v) := nn_i_of _
        have e2 : w.1 63 v = nn_i (hm w v) := nn_i_of _
        rw [e1, e2, nn_i_mul, nn_i_add] at ex
        subst ex
        exact nx
  exact loop 10 0 rfl
theorem c_ways {P : Int32 → wo_T → Prop} (h : gc_ok w) (k : P (nI (wn (gc_g w) 10)) w) : jj_Ci K mX3_ways [.ref 1] w P := by
  have hn := gc_n h
  apply en_X3_ways
  have loop : ∀ d v, v + d = 2 * (gc_g w).1 → jj_J K mX3_ways (jj_Ri P) 4 [(0, .ref 1), (1, .int (nI (wn (gc_g w) v))), (2, .int (nI v))] [] w := by
    intro d
    induction d with
    | zero =>
      intro v hv
      have e : v = 2 * (gc_g w).1 := by omega
      subst e
      apply vc_X3_ways_4
      rw [h.2.1, nn_two, wn_10 h.1]
      exact ⟨fun _ => k, fun q => absurd (nI_le (Nat.le_refl _) (by omega)) q⟩
    | succ d ih =>
      intro v hv
      have nx := ih (v + 1) (by omega)
      have e : wn (gc_g w) (v + 1) = wn (gc_g w) v + if gd_free (gc_g w) v then 1 else 0 := rfl
      rw [e] at nx
      apply vc_X3_ways_4
      rw [h.2.1, nn_two]
      refine ⟨fun q => absurd q (nI_ge (by omega) (by omega)), fun _ => c_isFree h v (by omega) ?_⟩
      rw [nn_ad1, nn_ad1]
      cases hf : gd_free (gc_g w) v with
      | false =>
        rw [hf] at nx
        refine ⟨fun _ x ex => ?_, fun q => absurd rfl q⟩
        have ex2 : x = nI (wn (gc_g w) v) := by rw [ex]; exact Int32.add_zero _
        rw [ex2]
        exact nx
      | true =>
        rw [hf] at nx
        refine ⟨fun q => absurd q (by decide), fun _ x ex => ?_⟩
        rw [ex]
        exact nx
  exact loop (2 * (gc_g w).1) 0 (by omega)
theorem m_ways {P : Int32 → wo_T → Prop} (h : gm_ok w) (k : P (nI (wn (gm_g w) 10)) w) : jj_Ci K mX7_ways [.ref 58] w P := by
  apply en_X7_ways
  have loop : ∀ d v, v + d = 10 → jj_J K mX7_ways (jj_Ri P) 4 [(0, .ref 58), (1, .int (nI (wn (gm_g w) v))), (2, .int (nI v))] [] w := by
    intro d
    induction d with
    | zero =>
      intro v hv
      have e : v = 10 := by omega
      subst e
      apply vc_X7_ways_4
      exact ⟨fun _ => k, fun q => absurd (by decide) q⟩
    | succ d ih =>
      intro v hv
      have nx := ih (v + 1) (by omega)
      have e : wn (gm_g w) (v + 1) = wn (gm_g w) v + if gd_free (gm_g w) v then 1 else 0 := rfl
      rw [e] at nx
      apply vc_X7_ways_4
      refine ⟨fun q => absurd q (nI_ge (b := 10) (by omega) (by decide)), fun _ => m_isWay h v (by omega) ?_⟩
      rw [nn_ad1, nn_ad1]
      cases hf : gd_free (gm_g w) v with
      | false =>
        rw [hf] at nx
        refine ⟨fun _ x ex => ?_, fun q => absurd rfl q⟩
        have ex2 : x = nI (wn (gm_g w) v) := by rw [ex]; exact Int32.add_zero _
        rw [ex2]
        exact nx
      | true =>
        rw [hf] at nx
        refine ⟨fun q => absurd q (by decide), fun _ x ex => ?_⟩
        rw [ex]
        exact nx
  exact loop 10 0 rfl
end

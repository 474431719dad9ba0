/-! ===== the model: the first way that gives way; sets that bear ===== -/
def ff_D (g : gd_T) (B : Nat) (ws : List Nat) (n : Nat) : Prop := ∀ x : Nat → Int, (∀ z, z ∈ ws → xa_d 11 (ff_r g B z) x = 0) → ∀ z, z < n → xa_d 11 (ff_r g B z) x = 0
theorem ff_D_held {g : gd_T} {B : Nat} {ws : List Nat} {v : Nat} (h : ff_D g B ws v) (hf : gd_free g v = false) : ff_D g B ws (v + 1) := fun x hx z hz => by
  rcases Nat.lt_or_ge z v with h1 | h1
  · exact h x hx z h1
  · have e : z = v := by omega
    subst e
    rw [gd_d_s]
    exact gd_s_z 11 (fun c _ => by simp [ff_r_held hf])
section
variable {K : jj_K} {w : wo_T} {B : Nat}
theorem m_faultOf {P : Int32 → wo_T → Prop} (h : gm_ok w) (hB : B < 2 ^ gd_m (gm_g w))
    (k : ∀ f u, md_f w u → gd_flt (gm_g w) B f → (f = -1 → ∃ ws cs, ff_K (gm_g w) B ws cs ∧ rs_S (gm_g w) B u ws cs ∧ ff_D (gm_g w) B ws 10) → P (nn_i f) u) : jj_Ci K mX7_faultOf [.ref 58, .int (nI B)] w P := by
  have hok := h.1
  apply en_X7_faultOf
  have loop : ∀ d v u ws cs, v + d = 10 → md_f w u → ff_K (gm_g w) B ws cs → rs_S (gm_g w) B u ws cs → (∀ x, x ∈ ws → x < v) → ff_D (gm_g w) B ws v → jj_J K mX7_faultOf (jj_Ri P) 7 [(0, .ref 58), (1, .int (nI B)), (2, .int (nI v))] [] u := by
    intro d
    induction d with
    | zero =>
      intro v u ws cs hv hfr hK hS hlt hdep
      have e : v = 10 := by omega
      subst e
      apply vc_X7_faultOf_7
      exact ⟨fun _ => k (-1) u hfr (Or.inl ⟨rfl, ff_sat hok hB hK (fun x hx z hz => hdep x hx z (by omega))⟩) (fun _ => ⟨ws, cs, hK, hS, hdep⟩), fun q => absurd (by decide) q⟩
    | succ d ih =>
      intro v u ws cs hv hfr hK hS hlt hdep
      have v10 : v < 10 := by omega
      have hs := md_s hfr
      have hou := gm_ok_eq hs h
      have hg := gm_g_eq hs
      apply vc_X7_faultOf_7
      refine ⟨fun q => absurd q (nI_ge (b := 10) v10 (by decide)), fun _ => m_isWay hou v v10 ?_⟩
      rw [hg, nn_ad1]
      cases hf : gd_free (gm_g w) v with
      | false =>
        exact ⟨fun _ => ih (v + 1) u ws cs (by omega) hfr hK hS (fun x hx => Nat.lt_succ_of_lt (hlt x hx)) (ff_D_held hdep hf), fun q => absurd rfl q⟩
      | true =>
        refine ⟨fun q => absurd q (by decide), fun _ => m_adds hou (by rw [hg]; exact hB) (by rw [hg]; exact hK) (by rw [hg]; exact hS) v10 (by rw [hg]; exact hf) (fun u2 c hf2 hK2 hS2 => ?_) (fun u2 hf2 hz hS2 => ?_) (fun u2 hf2 hz hn => ?_)⟩
        · rw [hg] at hK2 hS2
          refine ⟨fun _ => ih (v + 1) u2 (v :: ws) (c :: cs) (by omega) (md_f_tr hfr hf2) hK2 hS2 (fun x hx => ?_) (fun x hx z hz => ?_), fun q => absurd q (by decide)⟩
          · rcases List.mem_cons.mp hx with rfl | hx
            · omega
            · exact Nat.lt_succ_of_lt (hlt x hx)
          · rcases Nat.lt_or_ge z v with h1 | h1
            · exact hdep x (fun z hz => hx z (List.mem_cons_of_mem _ hz)) z h1
            · have e : z = v := by omega
              subst e
              exact hx z List.mem_cons_self
        · rw [hg] at hz hS2
          refine ⟨fun _ => ih (v + 1) u2 ws cs (by omega) (md_f_tr hfr hf2) hK hS2 (fun x hx => Nat.lt_succ_of_lt (hlt x hx)) (fun x hx z hzv => ?_), fun q => absurd q (by decide)⟩
          rcases Nat.lt_or_ge z v with h1 | h1
          · exact hdep x hx z h1
          · have e : z = v := by omega
            subst e
            exact ff_dep hK hz x hx
        · rw [hg] at hz hn
          refine ⟨fun q => absurd rfl q, fun _ => ?_⟩
          rw [nn_nI]
          exact k (v : Int) u2 (md_f_tr hfr hf2) (Or.inr ⟨v, v10, rfl, ff_unt hok hB hlt hz hn, fun v' hv' => ff_sat hok hB hK (fun x hx z hzv => hdep x hx z (by omega))⟩) (fun q => absurd q (by omega))
  exact loop 10 0 _ [] [] rfl ⟨wo_fr_i (wo_fr_rf _ _ _) (by simp) _ _, fun j hj => wo_i_nk (by omega)⟩ trivial ⟨wo_i_eq, fun i hi => absurd hi (Nat.not_lt_zero _)⟩ (fun x hx => by cases hx) (fun x _ z hz => absurd hz (Nat.not_lt_zero _))
end
/-! independence by counting -/
def gd_bl (s : Nat) : Nat → List Nat
  | 0 => []
  | n + 1 => if s.testBit n then n :: gd_bl s n else gd_bl s n
theorem gd_bl_len (s : Nat) : ∀ n, (gd_bl s n).length = gd_pop s n
  | 0 => rfl
  | n + 1 => by
    simp only [gd_bl, gd_pop]
    split
    · simp [gd_bl_len s n]
    · simp [gd_bl_len s n]
theorem gd_bl_mem (s : Nat) : ∀ n k, k ∈ gd_bl s n ↔ k < n ∧ s.testBit k = true
  | 0, k => by simp [gd_bl]
  | n + 1, k => by
    simp only [gd_bl]
    split
    · rename_i h
      rw [List.mem_cons, gd_bl_mem s n k]
      constructor
      · rintro (rfl | ⟨h1, h2⟩)
        · exact ⟨by omega, h⟩
        · exact ⟨by omega, h2⟩
      · rintro ⟨h1, h2⟩
        rcases Nat.lt_or_ge k n with h3 | h3
        · exact Or.inr ⟨h3, h2⟩
        · exact Or.inl (by omega)
    · rename_i h
      rw [gd_bl_mem s n k]
      constructor
      · rintro ⟨h1, h2⟩
        exact ⟨by omega, h2⟩
      · rintro ⟨h1, h2⟩
        rcases Nat.lt_or_ge k n with h3 | h3
        · exact ⟨h3, h2⟩
        · have e : k = n := by omega
          rw [e] at h2
          exact absurd h2 h
theorem gd_bl_nd (s : Nat) : ∀ n, (gd_bl s n).Nodup
  | 0 => List.nodup_nil
  | n + 1 => by
    simp only [gd_bl]
    split
    · exact List.nodup_cons.mpr ⟨fun h => by have := ((gd_bl_mem s n n).mp h).1; omega, gd_bl_nd s n⟩
    · exact gd_bl_nd s n
section
variable {g : gd_T} {B : Nat} {ws cs : List Nat}
theorem mb_sub (hok : gd_ok g) (hK : ff_K g B ws cs) : cs ⊆ gd_bl B 10 := fun c hc => (gd_bl_mem B 10 c).mpr ⟨by have := (ff_K_p hK).2.2.1 c hc; have := gd_m_le hok; omega, ff_colB hK c hc⟩
theorem mb_all (hok : gd_ok g) (hK : ff_K g B ws cs) (he : ws.length = gd_pop B 10) (hB : B < 2 ^ gd_m g) {k : Nat} (hk : B.testBit k = true) : k ∈ cs := by
  obtain ⟨i1, i2, i3, i4⟩ := ff_K_p hK
  rcases Classical.em (k ∈ cs) with h | h
  · exact h
  · exfalso
    have hm := gd_m_le hok
    have hkm : k < gd_m g := by
      rcases Nat.lt_or_ge k (gd_m g) with q | q
      · exact q
      · rw [gd_big hB q] at hk; cases hk
    have := List.Nodup.length_le_of_subset (List.nodup_cons.mpr ⟨h, ff_nd hK⟩) (l₂ := gd_bl B 10) (fun c hc => by
      rcases List.mem_cons.mp hc with rfl | hc
      · exact (gd_bl_mem B 10 c).mpr ⟨by omega, hk⟩
      · exact mb_sub hok hK hc)
    rw [gd_bl_len] at this
    simp at this
    omega
theorem mb_ind (hok : gd_ok g) (hB : B < 2 ^ gd_m g) (hK : ff_K g B ws cs) (hR : ∀ i, i < ws.length → ∃ R, rr_R g B ws cs i R) (he : ws.length = gd_pop B 10) : gd_ind g B := by
  obtain ⟨i1, i2, i3, i4⟩ := ff_K_p hK
  have hm := gd_m_le hok
  intro q hq h0 k
  rcases Classical.em (q k = 0) with z | z
  · exact z
  · have hk := mb_all hok hK he hB (hq k z)
    obtain ⟨i, hi, e⟩ := rr_p_sur hk
    obtain ⟨R, r1, r2, r3, r4, r5⟩ := hR i (by omega)
    have d0 := r1 (ff_x g 0 q) (fun u hu => by rw [ff_dot hok hB 0 q hq u, h0 u (i4 u hu)]; simp)
    rw [gd_d_s, gd_s_pick (k := k) 11 (by have := i3 k hk; omega), gd_s_z 11 (fun c _ => ?_)] at d0
    · have hx : ff_x g 0 q k = q k := by unfold ff_x; rw [if_neg (by have := i3 k hk; omega)]
      rw [hx, Int.add_zero] at d0
      rw [e] at r3
      exact (Int.mul_eq_zero.mp d0).resolve_left r3
    · by_cases ec : c = k
      · simp [ec]
      · simp only [ec, if_false]
        rcases Classical.em (c ∈ cs) with hc | hc
        · rw [r2 c hc (by rw [e]; exact ec)]; simp
        · have : ff_x g 0 q c = 0 := by
            unfold ff_x
            split
            · rfl
            · rcases Classical.em (q c = 0) with z2 | z2
              · exact z2
              · exact absurd (mb_all hok hK he hB (hq c z2)) hc
          rw [this, Int.mul_zero]
theorem mb_len (hok : gd_ok g) (hB : B < 2 ^ gd_m g) (hK : ff_K g B ws cs) (hD : ff_D g B ws 10) (hi : gd_ind g B) : ws.length = gd_pop B 10 := by
  obtain ⟨i1, i2, i3, i4⟩ := ff_K_p hK
  have hm := gd_m_le hok
  have hle := List.Nodup.length_le_of_subset (ff_nd hK) (mb_sub hok hK)
  rw [gd_bl_len] at hle
  rcases Nat.lt_or_ge ws.length (gd_pop B 10) with hlt | hge
  · exfalso
    have hex : ∃ k, k ∈ gd_bl B 10 ∧ k ∉ cs := by
      rcases Classical.em (∃ k, k ∈ gd_bl B 10 ∧ k ∉ cs) with h | h
      · exact h
      · exfalso
        have := List.Nodup.length_le_of_subset (gd_bl_nd B 10) (l₂ := cs) (fun k hk => by
          rcases Classical.em (k ∈ cs) with z | z
          · exact z
          · exact absurd ⟨k, hk, z⟩ h)
        rw [gd_bl_len] at this
        omega
    obtain ⟨k, hk, hkc⟩ := hex
    obtain ⟨k10, hkB⟩ := (gd_bl_mem B 10 k).mp hk
    have hkm : k < gd_m g := by
      rcases Nat.lt_or_ge k (gd_m g) with q | q
      · exact q
      · rw [gd_big hB q] at hkB; cases hkB
    obtain ⟨κ, y, hκ, hy1, hy2⟩ := ff_meet hok hK (xa_e k)
    have ek : xa_e k k = 1 := by simp [xa_e]
    have en : ∀ c, c ≠ k → xa_e k c = 0 := fun c hc => by unfold xa_e; rw [if_neg]; omega
    have hym : y (gd_m g) = 0 := by
      rw [hy1 _ (fun z => absurd (i3 _ z) (Nat.lt_irrefl _)), en _ (by omega), Int.mul_zero]
    have hyB : ∀ c, y c ≠ 0 → B.testBit c = true := fun c hc => by
      rcases Classical.em (c ∈ cs) with z | z
      · exact ff_colB hK c z
      · rcases Classical.em (c = k) with e | e
        · rw [e]; exact hkB
        · rw [hy1 c z, en c e, Int.mul_zero] at hc
          exact absurd rfl hc
    have hx : ff_x g 0 y = y := by
      funext c
      unfold ff_x
      split
      · rename_i e
        rw [e, hym]; rfl
      · rfl
    have := hi y hyB (fun u hu => by
      have h1 := ff_dot hok hB 0 y hyB u
      rw [hx, hD y hy2 u hu] at h1
      omega) k
    rw [hy1 k hkc, ek, Int.mul_one] at this
    exact hκ this
  · omega
theorem mb_unt : ¬ gd_unt g B 9 ↔ ∃ p q, p ≠ 0 ∧ gd_sol g B p q := by
  constructor
  · intro h
    rcases Classical.em (∃ p q, p ≠ 0 ∧ gd_sol g B p q) with z | z
    · exact z
    · exfalso
      apply h
      intro p q hq hall
      rcases Classical.em (p = 0) with e | e
      · exact e
      · exact absurd ⟨p, q, e, hq, fun v hv => hall v (by omega)⟩ z
  · rintro ⟨p, q, hp, hq, hall⟩ h
    exact hp (h p q hq (fun v hv => hall v (by omega)))
end

/-! ===== questions to the model ===== -/
def mb (w : wo_T) : Nat := (w.1 58 6).toInt.toNat
def mi (w : wo_T) : Prop := gm_ok w ∧ (w.1 58 6 = nI (mb w) ∧ mb w < 2 ^ gd_m (gm_g w)) ∧ mt_k (gm_g w) w
def mq (w u : wo_T) : Prop := wo_fr [58, 65, 66] [64, 67, 68] w u ∧ ∀ j, j ≠ 9 → j ≠ 13 → j ≠ 14 → j ≠ 15 → j ≠ 16 → u.1 58 j = w.1 58 j
theorem mq_rf (w : wo_T) : mq w w := ⟨wo_fr_rf _ _ _, fun _ _ _ _ _ _ => rfl⟩
theorem mq_tr {w u v : wo_T} (h : mq w u) (h2 : mq u v) : mq w v := ⟨wo_fr_tr h.1 h2.1, fun j a b c d e => (h2.2 j a b c d e).trans (h.2 j a b c d e)⟩
theorem mq_s {w u : wo_T} (h : mq w u) : gm_s w u := ⟨h.2 5 (by decide) (by decide) (by decide) (by decide) (by decide), h.1.1 59 (by simp), h.1.1 60 (by simp), h.1.1 61 (by simp), h.1.1 62 (by simp)⟩
theorem mq_mt {w u : wo_T} (h : mt_f w u) : mq w u := ⟨h.1, fun j a b _ _ _ => h.2 j a b⟩
theorem mq_g {w u : wo_T} (h : mq w u) : gm_g u = gm_g w := gm_g_eq (mq_s h)
theorem mq_b {w u : wo_T} (h : mq w u) : mb u = mb w := by
  unfold mb
  rw [h.2 6 (by decide) (by decide) (by decide) (by decide) (by decide)]
theorem mq_mi {w u : wo_T} (hw : mi w) (h : mq w u) (hk : mt_k (gm_g w) u) : mi u := by
  unfold mi
  rw [mq_g h, mq_b h, h.2 6 (by decide) (by decide) (by decide) (by decide) (by decide)]
  exact ⟨gm_ok_eq (mq_s h) hw.1, hw.2.1, hk⟩
theorem eb_ne {S : Nat} (h : S < 1024) : ¬ nI S = -1 := fun q => by
  have := congrArg Int32.toInt q
  rw [nn_nI_int (by omega)] at this
  have h1 : (-1 : Int32).toInt = -1 := rfl
  rw [h1] at this
  omega
theorem mt_get {g : gd_T} {u : wo_T} {B S : Nat} (hT : mt_T g u (2 ^ gd_m g)) (hs : sb g B = some S) : u.2 67 S = nn_l (sv g S).1 ∧ u.2 68 S = nn_l (sv g S).2 ∧ 0 ≤ (sv g S).1 ∧ (sv g S).1 < 17179869184 ∧ 0 < (sv g S).2 ∧ (sv g S).2 < 67108864 := by
  obtain ⟨hb, hm, -⟩ := sb_brs hs
  rcases hT S hm with ⟨-, -, a, b, hv, hg, a0, a1, b0, b1, ea, eb⟩ | ⟨-, q⟩
  · obtain ⟨e1, e2⟩ := sv_low hb.1 hv hg
    rw [← e1, ← e2]
    exact ⟨ea, eb, a0, a1, b0, b1⟩
  · exact absurd hb q
section
variable {K : jj_K} {w : wo_T}
theorem m_isP {P : Int32 → wo_T → Prop} (c : Int32) (k : P (if isP c then 1 else 0) w) : jj_Ci K mX7_in [.int c, .int 0, .int 1] w P := by
  have e : (1 : Int32) = nI 2 - 1 := by decide
  rw [e]
  unfold isP at k
  refine m_below (n := 2) (by decide) c (fun j hj e => ?_) (fun hno => ?_)
  · rcases (show j = 0 ∨ j = 1 by omega) with rfl | rfl
    · subst e; exact k
    · subst e; exact k
  · have h0 : ¬ c = 0 := hno 0 (by decide)
    have h1 : ¬ c = 1 := hno 1 (by decide)
    simpa [h0, h1] using k
theorem m_no {P : Int64 → wo_T → Prop} (a : Int32) (k : P (noL a) w) : jj_Cl K mX7_no [.int a] w P := by
  apply en_X7_no
  exact k
theorem m_best {P : Int32 → wo_T → Prop} (h : mi w) {B : Nat} (hB : B < 2 ^ gd_m (gm_g w)) (k : ∀ u, mq w u → mi u → mt_T (gm_g w) u (2 ^ gd_m (gm_g w)) → P (eb (sb (gm_g w) B)) u) : jj_Ci K mX7_bestOf [.ref 58, .int (nI B)] w P := by
  obtain ⟨e1, e2⟩ := ev_lt (gm_m h.1)
  refine m_bestOf h.1 h.2.2 (by omega) (fun v u hf h13 hT hv => ?_)
  rw [eb_b hv]
  exact k u (mq_mt hf) (mq_mi h (mq_mt hf) (Or.inr ⟨h13, hT⟩)) hT
theorem m_volumeOf {P : Int64 → wo_T → Prop} (h : mi w) {B : Nat} (hB : B < 2 ^ gd_m (gm_g w)) (c : Int32) (k : ∀ u, mq w u → mi u → P (sl (gm_g w) B c) u) : jj_Cl K mX7_volumeOf [.ref 58, .int (nI B), .int c] w P := by
  obtain ⟨e1, e2⟩ := ev_lt (gm_m h.1)
  apply en_X7_volumeOf
  refine m_best h hB (fun u hq hu hT => ?_)
  have kk := k u hq hu
  unfold sl at kk
  cases hs : sb (gm_g w) B with
  | none =>
    rw [hs] at kk
    exact ⟨fun q => absurd rfl q, fun _ => m_no (-3) kk⟩
  | some S =>
    rw [hs] at kk
    obtain ⟨f1, f2, -⟩ := mt_get hT hs
    have hS := (sb_brs hs).2.1
    refine ⟨fun _ => ?_, fun q => absurd q (eb_ne (by omega))⟩
    show (¬ c = 0 → vp_in (nI S) 1024 ∧ P (u.2 68 (nI S).toNatClampNeg) u) ∧ (c = 0 → vp_in (nI S) 1024 ∧ P (u.2 67 (nI S).toNatClampNeg) u)
    rw [nI_clamp (by omega), f1, f2]
    replace kk : P (nn_l (if c = 0 then (sv (gm_g w) S).1 else (sv (gm_g w) S).2)) u := kk
    refine ⟨fun q => ⟨nn_inn (by omega) (by decide), ?_⟩, fun q => ⟨nn_inn (by omega) (by decide), ?_⟩⟩
    · rw [if_neg q] at kk; exact kk
    · rw [if_pos q] at kk; exact kk
theorem m_least {P : Int64 → wo_T → Prop} (h : mi w) (c : Int32) (k : ∀ u, mq w u → mi u → P (if isP c then sl (gm_g w) (mb w) c else noL (-2)) u) : jj_Cl K mX7_least [.ref 58, .int c] w P := by
  apply en_X7_least
  refine m_isP c ?_
  cases hp : isP c with
  | true =>
    rw [hp] at k
    rw [h.2.1.1]
    exact ⟨fun q => absurd q (by decide), fun _ => m_volumeOf h h.2.1.2 c (fun u a b => k u a b)⟩
  | false =>
    rw [hp] at k
    exact ⟨fun _ => m_no (-2) (k w (mq_rf w) h), fun q => absurd rfl q⟩
theorem m_flt {P : Int32 → wo_T → Prop} (h : mi w) {B : Nat} (hB : B < 2 ^ gd_m (gm_g w)) (k : ∀ u, mq w u → mi u → P (nn_i (sf (gm_g w) B)) u) : jj_Ci K mX7_faultOf [.ref 58, .int (nI B)] w P := by
  refine m_faultOf h.1 hB (fun f u hf hflt _ => ?_)
  rw [← sf_eq hflt]
  have hq := mq_mt (mt_f_md hf)
  exact k u hq (mq_mi h hq (mt_k_md hf h.2.2))
theorem m_fault {P : Int32 → wo_T → Prop} (h : mi w) (k : ∀ u, mq w u → mi u → P (nn_i (sf (gm_g w) (mb w))) u) : jj_Ci K mX7_fault [.ref 58] w P := by
  apply en_X7_fault
  rw [h.2.1.1]
  exact m_flt h h.2.1.2 k
theorem m_frameNow {P : Int32 → wo_T → Prop} (h : mi w) (k : ∀ u, mq w u → mi u → P (fo (sb (gm_g w) (mb w))) u) : jj_Ci K mX7_frameNow [.ref 58] w P := by
  obtain ⟨e1, e2⟩ := ev_lt (gm_m h.1)
  apply en_X7_frameNow
  rw [h.2.1.1]
  refine m_best h h.2.1.2 (fun u hq hu hT => ?_)
  have kk := k u hq hu
  cases hs : sb (gm_g w) (mb w) with
  | none =>
    rw [hs] at kk
    exact ⟨fun q => absurd rfl q, fun _ => kk⟩
  | some S =>
    rw [hs] at kk
    have hS := (sb_brs hs).2.1
    exact ⟨fun _ => kk, fun q => absurd q (eb_ne (by omega))⟩
theorem m_frame {P : Int32 → wo_T → Prop} (h : mi w) (k : ∀ u, mq w u → mi u → P (fo (sb (gm_g w) (mb w))) u) : jj_Ci K mX7_frame [.ref 58] w P := by
  apply en_X7_frame
  exact m_frameNow h k
theorem m_isBar {P : Int32 → wo_T → Prop} (h : mi w) (a : Int32) (k1 : ∀ j, j < gd_m (gm_g w) → a = nI j → (mb w).testBit j = true → P 1 w) (k0 : (∀ j, j < gd_m (gm_g w) → a = nI j → (mb w).testBit j = false) → P 0 w) : jj_Ci K mX7_isBar [.ref 58, .int a] w P := by
  have hm := gm_m h.1
  obtain ⟨e1, e2⟩ := ev_lt hm
  have hb := h.2.1.2
  apply en_X7_isBar
  refine m_isPair h.1 a (fun j hj e => ?_) (fun hno => ⟨fun _ => k0 (fun j hj e => absurd e (hno j hj)), fun q => absurd rfl q⟩)
  subst e
  rw [h.2.1.1, nn_bit1 (by omega) (by omega)]
  refine ⟨fun q => absurd q (by decide), fun _ => ⟨fun hb0 => k0 (fun j' hj' e => ?_), fun hb1 => k1 j hj rfl hb1⟩⟩
  have := (nI_eq (by omega) (by omega)).mp e
  rw [← this]
  cases hq : (mb w).testBit j with
  | true => exact absurd hq hb0
  | false => rfl
theorem m_why {P : Int32 → wo_T → Prop} (h : mi w) (a : Int32) (k1 : ∀ j u, j < gd_m (gm_g w) → a = nI j → (mb w).testBit j = true → mq w u → mi u → P (nn_i (sf (gm_g w) (bwo (mb w) j))) u) (k0 : (∀ j, j < gd_m (gm_g w) → a = nI j → (mb w).testBit j = false) → P (-2) w) : jj_Ci K mX7_why [.ref 58, .int a] w P := by
  have hm := gm_m h.1
  apply en_X7_why
  refine m_isBar h a (fun j hj e hbit => ⟨fun q => absurd q (by decide), fun _ => ?_⟩) (fun hno => ⟨fun _ => k0 hno, fun q => absurd rfl q⟩)
  subst e
  rw [h.2.1.1, bwo_nn (by omega)]
  exact m_flt h (Nat.lt_of_le_of_lt (bwo_le _ _) h.2.1.2) (fun u hq hu => k1 j u hj rfl hbit hq hu)
theorem m_without {P : Int64 → wo_T → Prop} (h : mi w) (a c : Int32)
    (k1 : ∀ j u, j < gd_m (gm_g w) → a = nI j → (mb w).testBit j = true → isP c = true → mq w u → mi u → P (sl (gm_g w) (bwo (mb w) j) c) u) (k0 : (∀ j, j < gd_m (gm_g w) → a = nI j → (mb w).testBit j = false) ∨ isP c = false → P (noL (-2)) w) : jj_Cl K mX7_without [.ref 58, .int a, .int c] w P := by
  have hm := gm_m h.1
  apply en_X7_without
  refine m_isBar h a (fun j hj e hbit => ⟨fun q => absurd q (by decide), fun _ => m_isP c ?_⟩) (fun hno => ⟨fun _ => m_no (-2) (k0 (Or.inl hno)), fun q => absurd rfl q⟩)
  cases hp : isP c with
  | false => exact ⟨fun _ => m_no (-2) (k0 (Or.inr hp)), fun q => absurd rfl q⟩
  | true =>
    subst e
    rw [h.2.1.1, bwo_nn (by omega)]
    exact ⟨fun q => absurd q (by decide), fun _ => m_volumeOf h (Nat.lt_of_le_of_lt (bwo_le _ _) h.2.1.2) c (fun u hq hu => k1 j u hj rfl hbit hp hq hu)⟩
end
theorem fr_0 {p : Int} (hp : p ≠ 0) : fr_n 0 p = 0 ∧ fr_d 0 p = 1 := by
  obtain ⟨s1, s2, s3, -⟩ := fr_spec (a := 0) hp
  have e1 : fr_n 0 p = 0 := by
    rw [Int.zero_mul] at s3
    exact (Int.mul_eq_zero.mp s3.symm).resolve_right hp
  rw [e1, Int.gcd_zero_left] at s2
  exact ⟨e1, by omega⟩
theorem mv_d {g : gd_T} {B : Nat} {ws cs : List Nat} (hok : gd_ok g) (hB : B < 2 ^ gd_m g) (hK : ff_K g B ws cs) (hall : ∀ k, B.testBit k = true → k ∈ cs) {i : Nat} (hi : i < ws.length) {R : Nat → Int} (hR : rr_R g B ws cs i R) {p0 : Int} {q0 : Nat → Int} (hs : gd_sol g B p0 q0) : R (rr_p cs i) * q0 (rr_p cs i) = p0 * R (gd_m g) := by
  have hm := gd_m_le hok
  obtain ⟨i1, i2, i3, i4⟩ := ff_K_p hK
  have hpm := i3 _ (rr_p_mem (cs := cs) (i := i) (by omega))
  obtain ⟨r1, r2, r3, r4, r5⟩ := hR
  have d0 := r1 (ff_x g p0 q0) (fun u hu => by rw [ff_dot hok hB p0 q0 hs.1 u, hs.2 u (i4 u hu)]; omega)
  rw [gd_d_s, gd_s_pick (k := gd_m g) 11 (by omega), gd_s_pick (k := rr_p cs i) 11 (by omega), gd_s_z 11 (fun c _ => ?_)] at d0
  · have x1 : ff_x g p0 q0 (gd_m g) = -p0 := by simp [ff_x]
    have x2 : ff_x g p0 q0 (rr_p cs i) = q0 (rr_p cs i) := by unfold ff_x; rw [if_neg (by omega)]
    rw [if_neg (by omega), x1, x2] at d0
    grind
  · by_cases ec : c = rr_p cs i
    · simp [ec]
    · rw [if_neg ec]
      by_cases em : c = gd_m g
      · simp [em]
      · rw [if_neg em]
        rcases Classical.em (c ∈ cs) with hc | hc
        · rw [r2 c hc ec]; simp
        · have : ff_x g p0 q0 c = 0 := by
            unfold ff_x
            rw [if_neg em]
            rcases Classical.em (q0 c = 0) with z2 | z2
            · exact z2
            · exact absurd (hall c (hs.1 c z2)) hc
          rw [this, Int.mul_zero]
section
variable {K : jj_K} {w : wo_T}
theorem m_pullOf {P : Int64 → wo_T → Prop} (h : mi w) {j : Nat} (hj : j < gd_m (gm_g w)) {c : Int32} (hc : isP c = true) (k : ∀ u, mq w u → mi u → P (match sb (gm_g w) (mb w) with | none => noL (-3) | some S => fp (sq (gm_g w) S j) c) u) : jj_Cl K mX7_pullOf [.ref 58, .int (nI j), .int c] w P := by
  have hm := gm_m h.1
  obtain ⟨e1, e2⟩ := ev_lt hm
  have hok := h.1.1
  apply en_X7_pullOf
  rw [h.2.1.1]
  refine m_best h h.2.1.2 (fun u hq hu hT => ?_)
  cases hs : sb (gm_g w) (mb w) with
  | none =>
    have kk := k u hq hu
    rw [hs] at kk
    exact ⟨fun q => absurd rfl q, fun _ => m_no (-3) kk⟩
  | some S =>
    obtain ⟨hbr, hSm, -⟩ := sb_brs hs
    obtain ⟨hind, p0, q0, hp0, hsol⟩ := hbr
    obtain ⟨f1, f2⟩ := sq_eq hind hp0 hsol j
    refine ⟨fun _ => ?_, fun q => absurd q (eb_ne (by omega))⟩
    show (¬ (nI S >>> (nI j &&& 31) &&& 1) = 0 → _) ∧ ((nI S >>> (nI j &&& 31) &&& 1) = 0 → _)
    rw [nn_bit0 (by omega) (by omega)]
    refine ⟨fun hbit => ?_, fun hbit => ?_⟩
    · have hbit2 : S.testBit j = true := by
        cases hq : S.testBit j with
        | true => rfl
        | false => exact absurd hq hbit
      have hg := mq_g hq
      refine m_faultOf hu.1 (B := S) (by rw [hg]; exact hSm) (fun f u2 hf2 hflt hrep => ?_)
      rw [hg] at hflt hrep
      have hf1 : f = -1 := by
        rcases hflt with ⟨e, -⟩ | ⟨v, hv, e, hun, -⟩
        · exact e
        · exact absurd (gd_unt_mono (by omega) hun) (mb_unt.mpr ⟨p0, q0, hp0, hsol⟩)
      obtain ⟨ws, cs, hK, hSs, hD⟩ := hrep hf1
      have h7 := ff_7 hok hK
      obtain ⟨i1, i2, i3, i4⟩ := ff_K_p hK
      have hlen := mb_len hok hSm hK hD hind
      have hall : ∀ k, S.testBit k = true → k ∈ cs := fun k hk => mb_all hok hK hlen hSm hk
      obtain ⟨t0, ht0, et0⟩ := rr_p_sur (hall j hbit2)
      have hq2 : mq u u2 := mq_mt (mt_f_md hf2)
      have hu2 : mi u2 := mq_mi hu hq2 (by rw [hg]; exact mt_k_md hf2 (by have := hu.2.2; rw [hg] at this; exact this))
      have kk := k u2 (mq_tr hq hq2) hu2
      rw [hs] at kk
      have loop : ∀ d t (a4 : Int64), t + d = ws.length → (t0 < t → a4 = fp (sq (gm_g w) S j) c) → jj_J K mX7_pullOf (jj_Rl P) 43 [(0, .ref 58), (1, .int (nI j)), (2, .int c), (3, .int (nI S)), (4, .long a4), (6, .int (nI t))] [] u2 := by
        intro d
        induction d with
        | zero =>
          intro t a4 ht ha
          apply vc_X7_pullOf_43
          rw [hSs.1]
          refine ⟨fun _ => ?_, fun q => absurd (nI_le (by omega) (by omega)) q⟩
          rw [ha (by omega)]
          exact kk
        | succ d ih =>
          intro t a4 ht ha
          have ht1 : t < ws.length := by omega
          obtain ⟨hpv, R, hR, hRV⟩ := hSs.2 t ht1
          have hpm := i3 _ (rr_p_mem (cs := cs) (i := t) (by omega))
          apply vc_X7_pullOf_43
          rw [hSs.1, nI_clamp (n := t) (by omega), hpv, nn_ad1, nI_eq (by omega) (by omega)]
          refine ⟨fun q => absurd q (nI_ge ht1 (by omega)), fun _ => ⟨nn_inn (by omega) (by decide), fun hne => ih (t + 1) a4 (by omega) (fun hlt => ?_), fun heq => ?_⟩⟩
          · rcases Nat.lt_or_ge t0 t with q | q
            · exact ha q
            · have e : t0 = t := by omega
              rw [e] at et0
              exact absurd et0 hne
          · have e10 : 11 * nI t + 10 = nI (11 * t + 10) := by rw [nn_el']; exact nI_add _ 10
            rw [e10, nn_el', nI_add, nI_clamp (n := 11 * t + 10) (by omega), nI_clamp (n := 11 * t + j) (by omega), hRV 10 (by decide), hRV j (by omega), mw_10, mw_p hm hj]
            have b1 := rr_bd hok hK ht1 hR j
            have b2 := rr_bd hok hK ht1 hR (gd_m (gm_g w))
            have hRj : R j ≠ 0 := by have := hR.2.2.1; rw [heq] at this; exact this
            refine ⟨nn_inn (by omega) (by decide), nn_inn (by omega) (by decide), m_partOf ⟨by omega, by omega⟩ ⟨by omega, by omega⟩ hRj c ?_⟩
            have d1 := mv_d hok hSm hK hall ht1 hR hsol
            rw [heq] at d1
            obtain ⟨g1, g2⟩ := fr_eq (a := R (gd_m (gm_g w))) (b := R j) (a' := q0 j) (b' := p0) hRj hp0 (by rw [Int.mul_comm, ← d1, Int.mul_comm])
            rw [g1, g2, f1, f2]
            exact ih (t + 1) _ (by omega) (fun _ => rfl)
      exact loop ws.length 0 0 (by omega) (fun q => absurd q (Nat.not_lt_zero _))
    · have kk := k u hq hu
      rw [hs] at kk
      have hq0 : q0 j = 0 := by
        rcases Classical.em (q0 j = 0) with z | z
        · exact z
        · rw [hsol.1 j z] at hbit; cases hbit
      obtain ⟨g1, g2⟩ := fr_0 hp0
      rw [hq0, g1] at f1
      rw [hq0, g2] at f2
      have e : c.toInt64 = fp (sq (gm_g w) S j) c := by
        unfold fp
        rw [← f1, ← f2]
        unfold isP at hc
        simp at hc
        rcases hc with rfl | rfl <;> rfl
      rw [e]
      exact kk
theorem m_pull {P : Int64 → wo_T → Prop} (h : mi w) (a c : Int32)
    (k1 : ∀ j u, j < gd_m (gm_g w) → a = nI j → isP c = true → mq w u → mi u → P (match sb (gm_g w) (mb w) with | none => noL (-3) | some S => fp (sq (gm_g w) S j) c) u) (k0 : (∀ j, j < gd_m (gm_g w) → ¬ a = nI j) ∨ isP c = false → P (noL (-2)) w) : jj_Cl K mX7_pull [.ref 58, .int a, .int c] w P := by
  apply en_X7_pull
  refine m_isPair h.1 a (fun j hj e => ⟨fun q => absurd q (by decide), fun _ => m_isP c ?_⟩) (fun hno => ⟨fun _ => m_no (-2) (k0 (Or.inl hno)), fun q => absurd rfl q⟩)
  cases hp : isP c with
  | false => exact ⟨fun _ => m_no (-2) (k0 (Or.inr hp)), fun q => absurd rfl q⟩
  | true =>
    subst e
    exact ⟨fun q => absurd q (by decide), fun _ => m_pullOf h hj hp (fun u hq hu => k1 j u hj rfl hp hq hu)⟩
theorem m_gainOf {P : Int64 → wo_T → Prop} (h : mi w) {j : Nat} (hj : j < gd_m (gm_g w)) (c : Int32) (k : ∀ u, mq w u → mi u → P (match sb (gm_g w) (mb w), sb (gm_g w) (bwi (mb w) j) with | some S, some T => fp (sg (gm_g w) S T) c | _, _ => noL (-3)) u) : jj_Cl K mX7_gainOf [.ref 58, .int (nI j), .int c] w P := by
  have hm := gm_m h.1
  obtain ⟨e1, e2⟩ := ev_lt hm
  apply en_X7_gainOf
  rw [h.2.1.1]
  refine m_best h h.2.1.2 (fun u hq hu hT => ?_)
  cases hs : sb (gm_g w) (mb w) with
  | none =>
    have kk := k u hq hu
    rw [hs] at kk
    exact ⟨fun q => absurd rfl q, fun _ => m_no (-3) kk⟩
  | some S =>
    have hg := mq_g hq
    refine ⟨fun _ => ?_, fun q => absurd q (eb_ne (by have := (sb_brs hs).2.1; omega))⟩
    rw [hq.2 6 (by decide) (by decide) (by decide) (by decide) (by decide), h.2.1.1, bwi_nn (by omega)]
    refine m_best hu (by rw [hg]; exact bwi_lt h.2.1.2 hj) (fun u2 hq2 hu2 hT2 => ?_)
    rw [hg] at hT2
    rw [hg]
    have kk := k u2 (mq_tr hq hq2) hu2
    rw [hs] at kk
    cases hs2 : sb (gm_g w) (bwi (mb w) j) with
    | none =>
      exfalso
      have := sb_mono (bwi_sub (mb w) j) hs2
      rw [this] at hs; cases hs
    | some T =>
      rw [hs2] at kk
      obtain ⟨a1, a2, a3, a4, a5, a6⟩ := mt_get hT2 hs
      obtain ⟨b1, b2, b3, b4, b5, b6⟩ := mt_get hT2 hs2
      have hS := (sb_brs hs).2.1
      have hT' := (sb_brs hs2).2.1
      have c1 : (eb (some S)).toNatClampNeg = S := nI_clamp (by omega)
      have c2 : (eb (some T)).toNatClampNeg = T := nI_clamp (by omega)
      have v1 : vp_in (eb (some S)) 1024 := nn_inn (by omega) (by decide)
      have v2 : vp_in (eb (some T)) 1024 := nn_inn (by omega) (by decide)
      rw [c1, c2, a1, a2, b1, b2, nn_l_mul, nn_l_mul, nn_l_mul, nn_l_sub]
      have m1 := xs_mul (a := (sv (gm_g w) S).1) (b := (sv (gm_g w) T).2) (A := 17179869184) (B := 67108864) (by omega) a4 (by omega) b6
      have m2 := xs_mul (a := (sv (gm_g w) T).1) (b := (sv (gm_g w) S).2) (A := 17179869184) (B := 67108864) (by omega) b4 (by omega) a6
      have m3 := xs_mul (a := (sv (gm_g w) S).2) (b := (sv (gm_g w) T).2) (A := 67108864) (B := 67108864) (by omega) a6 (by omega) b6
      have m4 : 0 < (sv (gm_g w) S).2 * (sv (gm_g w) T).2 := Int.mul_pos a5 b5
      exact ⟨v1, v2, v2, v1, v1, v2, m_partOf ⟨by omega, by omega⟩ ⟨by omega, by omega⟩ (by omega) c kk⟩
theorem m_gain {P : Int64 → wo_T → Prop} (h : mi w) (a c : Int32)
    (k1 : ∀ j u, j < gd_m (gm_g w) → a = nI j → (mb w).testBit j = false → isP c = true → mq w u → mi u → P (match sb (gm_g w) (mb w), sb (gm_g w) (bwi (mb w) j) with | some S, some T => fp (sg (gm_g w) S T) c | _, _ => noL (-3)) u) (k0 : (∀ j, j < gd_m (gm_g w) → a = nI j → (mb w).testBit j = true) ∨ isP c = false → P (noL (-2)) w) : jj_Cl K mX7_gain [.ref 58, .int a, .int c] w P := by
  have hm := gm_m h.1
  apply en_X7_gain
  refine m_isPair h.1 a (fun j hj e => ⟨fun q => absurd q (by decide), fun _ => m_isBar h a (fun j' hj' e' hbit => ⟨fun _ => m_no (-2) (k0 (Or.inl (fun j2 _ e2 => ?_))), fun q => absurd q (by decide)⟩) (fun hno => ⟨fun q => absurd rfl q, fun _ => m_isP c ?_⟩)⟩) (fun hno => ⟨fun _ => m_no (-2) (k0 (Or.inl (fun j hj e => absurd e (hno j hj)))), fun q => absurd rfl q⟩)
  · rw [e'] at e2
    rw [← (nI_eq (by omega) (by omega)).mp e2]
    exact hbit
  · cases hp : isP c with
    | false => exact ⟨fun _ => m_no (-2) (k0 (Or.inr hp)), fun q => absurd rfl q⟩
    | true =>
      have hbit := hno j hj e
      subst e
      exact ⟨fun q => absurd q (by decide), fun _ => m_gainOf h hj c (fun u hq hu => k1 j u hj rfl hbit hp hq hu)⟩
end

/-! ===== questions to the class: least, fault, frame, pull, without, why, gain ===== -/
/-- bars without one, with one -/
def bwo (B k : Nat) : Nat := B &&& (2 ^ k ^^^ 4294967295)
def bwi (B k : Nat) : Nat := B ||| 2 ^ k
theorem bwo_nn {B k : Nat} (hk : k < 31) : nI B &&& (((1 : Int32) <<< (nI k &&& 31)) ^^^ (-1)) = nI (bwo B k) := by
  rw [nn_one hk, nn_diff]; rfl
theorem bwi_nn {B k : Nat} (hk : k < 31) : nI B ||| ((1 : Int32) <<< (nI k &&& 31)) = nI (bwi B k) := by
  rw [nn_one hk, nn_or]; rfl
theorem bwo_tb {B k : Nat} (hB : B < 4294967296) (j : Nat) : (bwo B k).testBit j = (B.testBit j && !decide (j = k)) := by
  unfold bwo
  rw [Nat.testBit_and, Nat.testBit_xor, Nat.testBit_two_pow]
  have hm : ∀ k, k < 32 → (4294967295 : Nat).testBit k = true := by decide +kernel
  rcases Nat.lt_or_ge j 32 with h | h
  · rw [hm j h]
    by_cases e : j = k
    · subst e; simp
    · have e2 : ¬ k = j := fun q => e q.symm
      simp [e, e2]
  · have : B.testBit j = false := Nat.testBit_lt_two_pow (Nat.lt_of_lt_of_le hB (by
      have : (2 : Nat) ^ 32 ≤ 2 ^ j := Nat.pow_le_pow_right (by decide) h
      omega))
    rw [this]; simp
theorem bwi_tb (B k j : Nat) : (bwi B k).testBit j = (B.testBit j || decide (j = k)) := by
  unfold bwi
  rw [Nat.testBit_or, Nat.testBit_two_pow]
  congr 1
  by_cases e : j = k
  · subst e; simp
  · have e2 : ¬ k = j := fun q => e q.symm
    simp [e, e2]
theorem bwo_le (B k : Nat) : bwo B k ≤ B := Nat.and_le_left
theorem bwo_sub {B k : Nat} (hB : B < 4294967296) : gd_sub (bwo B k) B := fun j hj => by
  rw [bwo_tb hB] at hj
  simp at hj
  exact hj.1
theorem bwi_lt {B k m : Nat} (hB : B < 2 ^ m) (hk : k < m) : bwi B k < 2 ^ m := Nat.or_lt_two_pow hB (Nat.pow_lt_pow_right (by decide) hk)
theorem bwi_sub (B k : Nat) : gd_sub B (bwi B k) := fun j hj => by rw [bwi_tb, hj]; rfl
theorem nn_neg1 : ¬ (0 : Int32) ≤ -1 := by decide
def isP (c : Int32) : Bool := decide (c = 0) || decide (c = 1)
section
variable {K : jj_K} {w : wo_T}
theorem c_isPart {P : Int32 → wo_T → Prop} (c : Int32) (k : P (if isP c then 1 else 0) w) : jj_Ci K mX6_isPart [.int c] w P := by
  apply en_X6_isPart
  unfold isP at k
  refine ⟨fun h => ?_, fun h => ⟨fun h2 => ?_, fun h2 => ?_⟩⟩
  · simpa [h] using k
  · simpa [h, h2] using k
  · simpa [h2] using k
/-- the volume by an answer of leastWithin -/
theorem c_vol {P : Int64 → wo_T → Prop} {g : gd_T} (hok : gd_ok g) {L : List Nat} (hbk : bk_L g (ev g) w 23 L) {B : Nat} {v : Int32} (hv : ci_v g L B v) (c : Int32) (k : P (sl g B c) w) : jj_Cl K mX0_volume [.ref 23, .int v, .int c] w P := by
  unfold sl at k
  rcases hv with ⟨e, hn⟩ | ⟨i, S, e, hi, hs⟩
  · rw [hn] at k
    rw [e]
    exact c_volumeN (Or.inl rfl) c k
  · rw [hs] at k
    rw [e]
    refine c_volume (Or.inl rfl) hok hbk hi c (fun a b hv => ?_)
    obtain ⟨e1, e2⟩ := sv_eq (sb_brs hs).1.1 hv
    rw [e1, e2]
    exact k
theorem c_least {P : Int64 → wo_T → Prop} (h : ci w) (c : Int32) (k : ∀ u, cq w u → ci u → P (if isP c then sl (gc_g w) (cb w) c else noL (-2)) u) : jj_Cl K mX6_least [.ref 0, .int c] w P := by
  apply en_X6_least
  refine c_isPart c ?_
  cases hp : isP c with
  | true =>
    rw [hp] at k
    refine ⟨fun _ => c_bestNow h (fun u v L hf hv => c_vol h.1.1 hf.2.2.1 hv c (k u hf.1 (cf_ci h hf))), fun q => absurd q (by decide)⟩
  | false =>
    rw [hp] at k
    exact ⟨fun q => absurd rfl q, fun _ => c_asLong (-2) (k w (cq_rf w) h)⟩
/-- the fault finder's cells are its own -/
theorem cq_first {u : wo_T} (h : ci w) (hf : wo_fr [35, 47] ff_ls w u) : cq w u ∧ ci u := by
  have hq : cq w u := ⟨wo_fr_up hf (fun b hb => by simp at hb; rcases hb with rfl | rfl <;> decide) (fun b hb => by unfold ff_ls at hb; simp at hb; rcases hb with rfl | rfl | rfl | rfl | rfl | rfl | rfl | rfl | rfl | rfl <;> decide), fun j _ => by rw [hf.1 0 (by simp)]⟩
  refine ⟨hq, cq_ci h hq (by rw [hf.1 0 (by simp)]) (fun L hL => ?_)⟩
  obtain ⟨s1, s2, s3, s4⟩ := hL
  refine ⟨bk_L_fr (w := w) (by rw [hf.1 23 (by simp)]) (hf.1 24 (by simp)) (hf.2 25 (by decide)) (hf.2 26 (by decide)) s1, s2, ?_, fun T hT e => ?_⟩
  · unfold bn_c
    rw [hf.1 23 (by simp)]
    exact s3
  · rw [hf.1 23 (by simp)] at e
    obtain ⟨p, q, a1, a2, a3, a4, a5⟩ := s4 T hT e
    exact ⟨p, q, a1, a2, a3, by rw [hf.2 23 (by decide)]; exact a4, fun k hk => by rw [hf.2 27 (by decide)]; exact a5 k hk⟩
theorem c_fault {P : Int32 → wo_T → Prop} (h : ci w) (k : ∀ u, cq w u → ci u → P (nn_i (sf (gc_g w) (cb w))) u) : jj_Ci K mX6_fault [.ref 0] w P := by
  apply en_X6_fault
  rw [h.2.1.1]
  refine c_first h.1 h.2.1.2 (fun f u hf hfr => ?_)
  obtain ⟨q1, q2⟩ := cq_first h hfr
  rw [← sf_eq hf]
  exact k u q1 q2
def fo (o : Option Nat) : Int32 := match o with
  | none => -3
  | some S => nI S
theorem ci_ix {g : gd_T} (hok : gd_ok g) {L : List Nat} (hbk : bk_L g (ev g) w 23 L) {i S : Nat} (hi : L[i]? = some S) : i < 252 ∧ w.1 24 i = nI S := by
  have h252 := bk_252 hok hbk.2.2.2 (fun S hS => ⟨(hbk.2.2.1 S hS).1, (hbk.2.2.1 S hS).2.1⟩)
  have hil := (List.getElem?_eq_some_iff.mp hi).1
  obtain ⟨a, b, e1, -⟩ := hbk.2.1 i S hi
  exact ⟨by omega, e1⟩
theorem c_frame {P : Int32 → wo_T → Prop} (h : ci w) (k : ∀ u L, cf w L u → P (fo (sb (gc_g w) (cb w))) u) : jj_Ci K mX6_frame [.ref 0] w P := by
  apply en_X6_frame
  refine c_bestNow h (fun u v L hf hv => ?_)
  rcases hv with ⟨e, hn⟩ | ⟨i, S, e, hi, hs⟩
  · have := k u L hf
    rw [hn] at this
    subst e
    exact ⟨fun q => absurd q nn_neg1, fun _ => this⟩
  · have := k u L hf
    rw [hs] at this
    subst e
    obtain ⟨i1, i2⟩ := ci_ix h.1.1 hf.2.2.1 hi
    rw [nI_clamp (by omega), i2]
    exact ⟨fun _ => ⟨nn_inn i1 (by decide), this⟩, fun q => absurd (nI_pos' (by omega)) q⟩
/-- isBar, by the pair that it is -/
theorem c_isBar {P : Int32 → wo_T → Prop} (h : ci w) (a : Int32) (k1 : ∀ j, j < gd_m (gc_g w) → a = nI j → (cb w).testBit j = true → P 1 w) (k0 : (∀ j, j < gd_m (gc_g w) → a = nI j → (cb w).testBit j = false) → P 0 w) : jj_Ci K mX6_isBar [.ref 0, .int a] w P := by
  have hm := gc_m h.1
  obtain ⟨e1, e2⟩ := ev_lt hm
  have hb := h.2.1.2
  apply en_X6_isBar
  refine c_hasPair h.1 a (fun j hj e => ?_) (fun hno => ⟨fun _ => k0 (fun j hj e => absurd e (hno j hj)), fun q => absurd rfl q⟩)
  subst e
  rw [h.2.1.1, nn_bit0 (by omega) (by omega)]
  refine ⟨fun q => absurd q (by decide), fun _ => ⟨fun hb0 => k0 (fun j' hj' e => ?_), fun hb1 => k1 j hj rfl (by
    cases hq : (cb w).testBit j with
    | true => rfl
    | false => exact absurd hq hb1)⟩⟩
  have := (nI_eq (by omega) (by omega)).mp e
  rw [← this]
  exact hb0
theorem c_why {P : Int32 → wo_T → Prop} (h : ci w) (a : Int32) (k1 : ∀ j u, j < gd_m (gc_g w) → a = nI j → (cb w).testBit j = true → cq w u → ci u → P (nn_i (sf (gc_g w) (bwo (cb w) j))) u) (k0 : (∀ j, j < gd_m (gc_g w) → a = nI j → (cb w).testBit j = false) → P (-2) w) : jj_Ci K mX6_why [.ref 0, .int a] w P := by
  have hm := gc_m h.1
  obtain ⟨e1, e2⟩ := ev_lt hm
  have hb := h.2.1.2
  apply en_X6_why
  refine c_isBar h a (fun j hj e hbit => ⟨fun _ => ?_, fun q => absurd q (by decide)⟩) (fun hno => ⟨fun q => absurd rfl q, fun _ => k0 hno⟩)
  subst e
  rw [h.2.1.1, bwo_nn (by omega)]
  refine c_first h.1 (Nat.lt_of_le_of_lt (bwo_le _ _) hb) (fun f u hf hfr => ?_)
  obtain ⟨q1, q2⟩ := cq_first h hfr
  rw [← sf_eq hf]
  exact k1 j u hj rfl hbit q1 q2
theorem c_without {P : Int64 → wo_T → Prop} (h : ci w) (a c : Int32)
    (k1 : ∀ j u, j < gd_m (gc_g w) → a = nI j → (cb w).testBit j = true → isP c = true → cq w u → ci u → P (match sb (gc_g w) (cb w) with | none => noL (-3) | some _ => sl (gc_g w) (bwo (cb w) j) c) u) (k0 : (∀ j, j < gd_m (gc_g w) → a = nI j → (cb w).testBit j = false) ∨ isP c = false → P (noL (-2)) w) : jj_Cl K mX6_without [.ref 0, .int a, .int c] w P := by
  have hm := gc_m h.1
  obtain ⟨e1, e2⟩ := ev_lt hm
  have hb := h.2.1.2
  apply en_X6_without
  refine c_isBar h a (fun j hj e hbit => ⟨fun q => absurd q (by decide), fun _ => c_isPart c ?_⟩) (fun hno => ⟨fun _ => c_asLong (-2) (k0 (Or.inl hno)), fun q => absurd rfl q⟩)
  cases hp : isP c with
  | false => exact ⟨fun q => absurd rfl q, fun _ => c_asLong (-2) (k0 (Or.inr hp))⟩
  | true =>
    refine ⟨fun _ => c_bestNow h (fun u v L hf hv => ?_), fun q => absurd q (by decide)⟩
    rcases hv with ⟨e', hn⟩ | ⟨i, S, e', hi, hs⟩
    · have := k1 j u hj e hbit hp hf.1 (cf_ci h hf)
      rw [hn] at this
      subst e'
      exact ⟨fun q => absurd q nn_neg1, fun _ => c_asLong (-3) this⟩
    · subst e'; subst e
      obtain ⟨i1, i2⟩ := ci_ix h.1.1 hf.2.2.1 hi
      refine ⟨fun _ => ?_, fun q => absurd (nI_pos' (by omega)) q⟩
      rw [hf.1.2 6 (by decide), h.2.1.1, bwo_nn (by omega)]
      refine c_lw h.1.1 rfl hf (Nat.lt_of_le_of_lt (bwo_le _ _) hb) (fun u2 v2 hf2 hv2 => c_vol h.1.1 hf2.2.2.1 hv2 c ?_)
      have := k1 j u2 hj rfl hbit hp hf2.1 (cf_ci h hf2)
      rw [hs] at this
      exact this
theorem c_pull {P : Int64 → wo_T → Prop} (h : ci w) (a c : Int32)
    (k1 : ∀ j u, j < gd_m (gc_g w) → a = nI j → isP c = true → cq w u → ci u → P (match sb (gc_g w) (cb w) with | none => noL (-3) | some S => fp (sq (gc_g w) S j) c) u) (k0 : (∀ j, j < gd_m (gc_g w) → ¬ a = nI j) ∨ isP c = false → P (noL (-2)) w) : jj_Cl K mX6_pull [.ref 0, .int a, .int c] w P := by
  have hm := gc_m h.1
  obtain ⟨e1, e2⟩ := ev_lt hm
  apply en_X6_pull
  refine c_hasPair h.1 a (fun j hj e => ⟨fun q => absurd q (by decide), fun _ => c_isPart c ?_⟩) (fun hno => ⟨fun _ => c_asLong (-2) (k0 (Or.inl hno)), fun q => absurd rfl q⟩)
  cases hp : isP c with
  | false => exact ⟨fun q => absurd rfl q, fun _ => c_asLong (-2) (k0 (Or.inr hp))⟩
  | true =>
    refine ⟨fun _ => c_bestNow h (fun u v L hf hv => ?_), fun q => absurd q (by decide)⟩
    rcases hv with ⟨e', hn⟩ | ⟨i, S, e', hi, hs⟩
    · have := k1 j u hj e hp hf.1 (cf_ci h hf)
      rw [hn] at this
      subst e'
      exact ⟨fun q => absurd q nn_neg1, fun _ => c_asLong (-3) this⟩
    · subst e'; subst e
      obtain ⟨i1, i2⟩ := ci_ix h.1.1 hf.2.2.1 hi
      have hg := cq_g hf.1
      obtain ⟨hbr, hSm, -⟩ := sb_brs hs
      rw [nI_clamp (n := i) (by omega), i2, nI_clamp (n := j) (by omega)]
      refine ⟨fun _ => ⟨nn_inn i1 (by decide), ?_⟩, fun q => absurd (nI_pos' (by omega)) q⟩
      refine c_bsolve (Or.inl rfl) (cq_ok hf.1 h.1) (by rw [hg]; exact hSm) (by rw [hg]; exact hbr) (by rw [hg]; exact hf.2.2.2.2.2) (fun u2 hfr hj2 h10 hpl => ⟨nn_inn (by omega) (by decide), ?_⟩)
      rw [hg] at hpl
      have hpl0 := hpl
      obtain ⟨p, q, a1, a2, a3, a4, a5⟩ := hpl
      obtain ⟨b1, b2, b3⟩ := a5 j (by omega)
      have b1' : u2.2 27 j = nn_l (q j) := b1
      rw [b1', a4]
      refine c_lowest ⟨by omega, by omega⟩ ⟨by omega, by omega⟩ a1 c ?_
      have hf2 : cf w L u2 := by
        refine ⟨cq_tr hf.1 ⟨wo_fr_up hfr (fun b hb => ?_) (fun b hb => ?_), fun j _ => by rw [hfr.1 0 (by simp)]⟩, by rw [hfr.1 0 (by simp)]; exact hf.2.1, ?_⟩
        · simp at hb; rcases hb with rfl | rfl | rfl | rfl | rfl <;> decide
        · simp at hb; rcases hb with rfl | rfl | rfl | rfl | rfl | rfl | rfl | rfl | rfl | rfl | rfl | rfl <;> decide
        · obtain ⟨s1, s2, s3, s4⟩ := hf.2.2
          refine ⟨bk_L_fr (w := u) (hj2 7 (by decide)) (hfr.1 24 (by simp)) (hfr.2 25 (by simp)) (hfr.2 26 (by simp)) s1, s2, ?_, fun T hT e => ?_⟩
          · unfold bn_c
            rw [hj2 8 (by decide), hj2 9 (by decide)]
            exact s3
          · rw [h10] at e
            rw [← (nI_eq (by omega) (by omega)).mp e]
            exact hpl0
      have := k1 j u2 hj rfl hp hf2.1 (cf_ci h hf2)
      rw [hs] at this
      obtain ⟨f1, f2⟩ := sq_eq hbr.1 a1 a3 j
      rw [f1, f2]
      exact this
theorem c_gain {P : Int64 → wo_T → Prop} (h : ci w) (a c : Int32)
    (k1 : ∀ j u, j < gd_m (gc_g w) → a = nI j → (cb w).testBit j = false → isP c = true → cq w u → ci u → P (match sb (gc_g w) (cb w), sb (gc_g w) (bwi (cb w) j) with | some S, some T => fp (sg (gc_g w) S T) c | _, _ => noL (-3)) u) (k0 : (∀ j, j < gd_m (gc_g w) → a = nI j → (cb w).testBit j = true) ∨ isP c = false → P (noL (-2)) w) : jj_Cl K mX6_gain [.ref 0, .int a, .int c] w P := by
  have hm := gc_m h.1
  obtain ⟨e1, e2⟩ := ev_lt hm
  have hb := h.2.1.2
  apply en_X6_gain
  refine c_hasPair h.1 a (fun j hj e => ⟨fun q => absurd q (by decide), fun _ => c_isBar h a (fun j' hj' e' hbit => ⟨fun _ => c_asLong (-2) (k0 (Or.inl (fun j2 _ e2 => ?_))), fun q => absurd q (by decide)⟩) (fun hno => ⟨fun q => absurd rfl q, fun _ => c_isPart c ?_⟩)⟩) (fun hno => ⟨fun _ => c_asLong (-2) (k0 (Or.inl (fun j hj e => absurd e (hno j hj)))), fun q => absurd rfl q⟩)
  · rw [e'] at e2
    rw [← (nI_eq (by omega) (by omega)).mp e2]
    exact hbit
  · cases hp : isP c with
    | false => exact ⟨fun q => absurd rfl q, fun _ => c_asLong (-2) (k0 (Or.inr hp))⟩
    | true =>
      have hbit := hno j hj e
      refine ⟨fun _ => c_bestNow h (fun u v L hf hv => ?_), fun q => absurd q (by decide)⟩
      rcases hv with ⟨e', hn⟩ | ⟨i, S, e', hi, hs⟩
      · have := k1 j u hj e hbit hp hf.1 (cf_ci h hf)
        rw [hn] at this
        subst e'
        exact ⟨fun q => absurd q nn_neg1, fun _ => c_asLong (-3) this⟩
      · subst e'; subst e
        obtain ⟨i1, i2⟩ := ci_ix h.1.1 hf.2.2.1 hi
        refine ⟨fun _ => ?_, fun q => absurd (nI_pos' (by omega)) q⟩
        rw [hf.1.2 6 (by decide), h.2.1.1, bwi_nn (by omega)]
        refine c_lw h.1.1 rfl hf (bwi_lt hb hj) (fun u2 v2 hf2 hv2 => ?_)
        have := k1 j u2 hj rfl hbit hp hf2.1 (cf_ci h hf2)
        rw [hs] at this
        rcases hv2 with ⟨e2', hn2⟩ | ⟨i', T, e2', hi', hs2⟩
        · exfalso
          -- more bars never bear less
          have hS := sb_get hs
          exact sb_no hn2 S hS.2.1 (gd_sub_trans hS.1 (bwi_sub _ _)) hS.2.2.1
        · subst e2'
          rw [hs2] at this
          refine c_difference (Or.inl rfl) h.1.1 hf2.2.2.1 hi hi' c (fun a b a' b' hv hv' => ?_)
          obtain ⟨f1, f2⟩ := sg_eq (sb_brs hs).1.1 (sb_brs hs2).1.1 hv hv'
          rw [f1, f2]
          exact this
end

/-! ===== digest: the model's, and the same answers ===== -/
def zm (w u : wo_T) : Prop := mq w u ∧ mi u
theorem zm_I {w u : wo_T} (h : mq w u) : mI u = mI w := by
  unfold mI
  rw [h.1.1 59 (by decide), h.1.1 60 (by decide), h.1.1 61 (by decide), h.1.1 62 (by decide), h.1.1 63 (by decide)]
section
variable {K : jj_K} {v w : wo_T}
theorem dm_count {P : Int32 → wo_T → Prop} (h : zm v w) (hH : h_ok (hm v)) (c : Int32) (k : ∀ u, zm v u → P (cn (gm_g v) (mb v) (hm v) (v.1 58 21) c) u) : jj_Ci K mX7_count [.ref 58, .int c] w P := by
  refine m_count h.2 (by rw [mq_h h.1]; exact hH) c (fun u hq hu => ?_)
  rw [mq_g h.1, mq_b h.1, mq_h h.1, h.1.2 21 (by decide) (by decide) (by decide) (by decide) (by decide)]
  exact k u ⟨mq_tr h.1 hq, hu⟩
theorem dm_least {P : Int64 → wo_T → Prop} (h : zm v w) {c : Int32} (hp : isP c = true) (k : ∀ u, zm v u → P (dL (gm_g v) (mb v) c) u) : jj_Cl K mX7_volumeOf [.ref 58, .int (w.1 58 6), .int c] w P := by
  rw [h.2.2.1.1]
  refine m_volumeOf h.2 h.2.2.1.2 c (fun u hq hu => ?_)
  rw [mq_g h.1, mq_b h.1]
  have := k u ⟨mq_tr h.1 hq, hu⟩
  unfold dL at this
  rw [if_pos hp] at this
  exact this
theorem dm_fault {P : Int32 → wo_T → Prop} (h : zm v w) (k : ∀ u, zm v u → P (nn_i (sf (gm_g v) (mb v))) u) : jj_Ci K mX7_fault [.ref 58] w P := by
  refine m_fault h.2 (fun u hq hu => ?_)
  rw [mq_g h.1, mq_b h.1]
  exact k u ⟨mq_tr h.1 hq, hu⟩
theorem dm_frame {P : Int32 → wo_T → Prop} (h : zm v w) (k : ∀ u, zm v u → P (fo (sb (gm_g v) (mb v))) u) : jj_Ci K mX7_frameNow [.ref 58] w P := by
  refine m_frameNow h.2 (fun u hq hu => ?_)
  rw [mq_g h.1, mq_b h.1]
  exact k u ⟨mq_tr h.1 hq, hu⟩
theorem dm_needed {P : Int32 → wo_T → Prop} (h : zm v w) (k : ∀ u, zm v u → P (nd (gm_g v) (mb v)) u) : jj_Ci K mX7_neededNow [.ref 58] w P := by
  refine m_neededNow h.2 (fun u hq hu => ?_)
  rw [mq_g h.1, mq_b h.1]
  exact k u ⟨mq_tr h.1 hq, hu⟩
theorem dm_dearest {P : Int32 → wo_T → Prop} (h : zm v w) (k : ∀ u, zm v u → P (dr (gm_g v) (mb v)) u) : jj_Ci K mX7_dearestNow [.ref 58] w P := by
  refine m_dearestNow h.2 (fun u hq hu => ?_)
  rw [mq_g h.1, mq_b h.1]
  exact k u ⟨mq_tr h.1 hq, hu⟩
theorem dm_info {P : Int32 → wo_T → Prop} (h : zm v w) {p j : Nat} (hp : p < (gm_g v).1) (hj : j < 7) (k : P (mI v p (nI j)) w) : jj_Ci K mX7_infoOf [.ref 58, .int (nI p), .int (nI j)] w P := by
  refine m_infoOf h.2.1 (by rw [mq_g h.1]; exact hp) ⟨j, hj, rfl⟩ ?_
  rw [← zm_I h.1] at k
  exact k
theorem dm_pair {P : Int32 → wo_T → Prop} (h : zm v w) {j i : Nat} (hj : j < gd_m (gm_g v)) (hi : i < 4) (k : P (pai (gm_g v) (mb v) j (nI i)) w) : jj_Ci K mX7_pairOf [.ref 58, .int (nI j), .int (nI i)] w P := by
  refine m_pairOf h.2 (by rw [mq_g h.1]; exact hj) ?_ ?_
  · rcases (show i = 0 ∨ i = 1 ∨ i = 2 ∨ i = 3 by omega) with e | e | e | e <;> subst e
    · exact Or.inl rfl
    · exact Or.inr (Or.inl rfl)
    · exact Or.inr (Or.inr (Or.inl rfl))
    · exact Or.inr (Or.inr (Or.inr rfl))
  · rw [mq_g h.1, mq_b h.1]
    exact k
theorem dm_pull {P : Int64 → wo_T → Prop} (h : zm v w) {j : Nat} (hj : j < gd_m (gm_g v)) {c : Int32} (hp : isP c = true) (k : ∀ u, zm v u → P (dPu (gm_g v) (mb v) j c) u) : jj_Cl K mX7_pullOf [.ref 58, .int (nI j), .int c] w P := by
  refine m_pullOf h.2 (by rw [mq_g h.1]; exact hj) hp (fun u hqq hu => ?_)
  rw [mq_g h.1, mq_b h.1]
  have := k u ⟨mq_tr h.1 hqq, hu⟩
  unfold dPu at this
  cases hs : sb (gm_g v) (mb v) with
  | none => rw [hs] at this; exact this
  | some S => rw [hs] at this; exact this
theorem dm_stretch {P : Int64 → wo_T → Prop} (h : zm v w) (hH : h_ok (hm v)) {j : Nat} (hj : j < gd_m (gm_g v)) {c : Int32} (hp : isP c = true) (k : P (dSt (gm_g v) (hm v) j c) w) : jj_Cl K mX7_stretch [.ref 58, .int (nI j), .int c] w P := by
  have hm' := gm_m h.2.1
  rw [mq_g h.1] at hm'
  refine m_stretch h.2.1 (by rw [mq_h h.1]; exact hH) (nI j) c (fun q hq e _ => ?_) (fun hno => ?_)
  · rw [mq_g h.1] at hq
    have : q = j := ((nI_eq (by omega) (by omega)).mp e).symm
    subst this
    rw [mq_g h.1, mq_h h.1]
    exact k
  · exfalso
    rcases hno with q | q
    · exact q j (by rw [mq_g h.1]; exact hj) rfl
    · rw [hp] at q; cases q
theorem dm_isBar {P : Int32 → wo_T → Prop} (h : zm v w) {j : Nat} (hj : j < gd_m (gm_g v)) (k1 : (mb v).testBit j = true → P 1 w) (k0 : (mb v).testBit j = false → P 0 w) : jj_Ci K mX7_isBar [.ref 58, .int (nI j)] w P := by
  have hm' := gm_m h.2.1
  rw [mq_g h.1] at hm'
  refine m_isBar h.2 (nI j) (fun q hq e hb => ?_) (fun hno => ?_)
  · rw [mq_g h.1] at hq
    have : q = j := ((nI_eq (by omega) (by omega)).mp e).symm
    subst this
    rw [mq_b h.1] at hb
    exact k1 hb
  · have := hno j (by rw [mq_g h.1]; exact hj) rfl
    rw [mq_b h.1] at this
    exact k0 this
theorem dm_gain {P : Int64 → wo_T → Prop} (h : zm v w) {j : Nat} (hj : j < gd_m (gm_g v)) {c : Int32} (k : ∀ u, zm v u → P (dGa (gm_g v) (mb v) j c) u) : jj_Cl K mX7_gainOf [.ref 58, .int (nI j), .int c] w P := by
  refine m_gainOf h.2 (by rw [mq_g h.1]; exact hj) c (fun u hqq hu => ?_)
  rw [mq_g h.1, mq_b h.1]
  have := k u ⟨mq_tr h.1 hqq, hu⟩
  unfold dGa at this
  cases hs : sb (gm_g v) (mb v) <;> cases ht : sb (gm_g v) (bwi (mb v) j) <;> (rw [hs, ht] at this; exact this)
theorem dm_without {P : Int64 → wo_T → Prop} (h : zm v w) {j : Nat} (hj : j < gd_m (gm_g v)) (hb : (mb v).testBit j = true) {c : Int32} (hp : isP c = true) (k : ∀ u, zm v u → P (sl (gm_g v) (bwo (mb v) j) c) u) : jj_Cl K mX7_without [.ref 58, .int (nI j), .int c] w P := by
  have hm' := gm_m h.2.1
  rw [mq_g h.1] at hm'
  refine m_without h.2 (nI j) c (fun q u hq e _ _ hqq hu => ?_) (fun hno => ?_)
  · rw [mq_g h.1] at hq
    have : q = j := ((nI_eq (by omega) (by omega)).mp e).symm
    subst this
    rw [mq_g h.1, mq_b h.1]
    exact k u ⟨mq_tr h.1 hqq, hu⟩
  · exfalso
    rcases hno with q | q
    · have := q j (by rw [mq_g h.1]; exact hj) rfl
      rw [mq_b h.1, hb] at this; cases this
    · rw [hp] at q; cases q
theorem dm_why {P : Int32 → wo_T → Prop} (h : zm v w) {j : Nat} (hj : j < gd_m (gm_g v)) (hb : (mb v).testBit j = true) (k : ∀ u, zm v u → P (nn_i (sf (gm_g v) (bwo (mb v) j))) u) : jj_Ci K mX7_why [.ref 58, .int (nI j)] w P := by
  have hm' := gm_m h.2.1
  rw [mq_g h.1] at hm'
  refine m_why h.2 (nI j) (fun q u hq e _ hqq hu => ?_) (fun hno => ?_)
  · rw [mq_g h.1] at hq
    have : q = j := ((nI_eq (by omega) (by omega)).mp e).symm
    subst this
    rw [mq_g h.1, mq_b h.1]
    exact k u ⟨mq_tr h.1 hqq, hu⟩
  · exfalso
    have := hno j (by rw [mq_g h.1]; exact hj) rfl
    rw [mq_b h.1, hb] at this; cases this
theorem dm_work {P : Int64 → wo_T → Prop} (h : zm v w) (hH : h_ok (hm v)) (c : Int32) (k : P (dWk (gm_g v) (hm v) c) w) : jj_Cl K mX7_work [.ref 58, .int c] w P := by
  refine m_work h.2.1 (by rw [mq_h h.1]; exact hH) c ?_
  rw [mq_g h.1, mq_h h.1]
  exact k
theorem dm_crossings {P : Int32 → wo_T → Prop} (h : zm v w) (k : ∀ u, zm v u → P (cx_n (gm_g v) (sb (gm_g v) (mb v))) u) : jj_Ci K mX7_crossings [.ref 58] w P := by
  refine m_crossings h.2 (fun u hq hu => ?_)
  rw [mq_g h.1, mq_b h.1]
  exact k u ⟨mq_tr h.1 hq, hu⟩
theorem dm_cross {P : Int32 → wo_T → Prop} (h : zm v w) {S : Nat} (hs : sb (gm_g v) (mb v) = some S) {i j : Nat} (hi : i < 2147483648) (hj : j < 6) (k : ∀ u, zm v u → P (cx_c (gm_g v) S i (nI j)) u) : jj_Ci K mX7_crossOf [.ref 58, .int (nI i), .int (nI j)] w P := by
  refine m_crossOf h.2 (S := S) (by rw [mq_g h.1, mq_b h.1]; exact hs) hi hj (fun u hq hu => ?_)
  rw [mq_g h.1]
  exact k u ⟨mq_tr h.1 hq, hu⟩
theorem m_pairDigest {P : Int64 → wo_T → Prop} (h : zm v w) (hH : h_ok (hm v)) {j : Nat} (hj : j < gd_m (gm_g v)) (x : Int64) (k : ∀ u, zm v u → P (dP (gm_g v) (mb v) (hm v) j x) u) : jj_Cl K mX7_pairDigest [.ref 58, .long x, .int (nI j)] w P := by
  apply en_X7_pairDigest
  have loop : ∀ d i y u, i + d = 4 → zm v u → dG (fun i x => 31 * x + (pai (gm_g v) (mb v) j (nI i)).toInt64) i d y = dG (fun i x => 31 * x + (pai (gm_g v) (mb v) j (nI i)).toInt64) 0 4 x → jj_J K mX7_pairDigest (jj_Rl P) 6 [(0, .ref 58), (1, .long x), (3, .int (nI j)), (4, .long y), (6, .int (nI i))] [] u := by
    intro d
    induction d with
    | zero =>
      intro i y u hi hz hy
      have e4 : i = 4 := by omega
      subst e4
      have hy' : y = dG (fun i x => 31 * x + (pai (gm_g v) (mb v) j (nI i)).toInt64) 0 4 x := hy
      apply vc_X7_pairDigest_6
      refine ⟨fun _ => ?_, fun q => absurd (show (4 : Int32) ≤ nI 4 by decide) q⟩
      refine dm_pull hz hj (c := 0) rfl (fun u1 z1 x1 e1 => ?_)
      refine dm_pull z1 hj (c := 1) rfl (fun u2 z2 x2 e2 => ?_)
      refine dm_stretch z2 hH hj (c := 0) rfl (fun x3 e3 => ?_)
      refine dm_stretch z2 hH hj (c := 1) rfl (fun x4 e4 => ?_)
      have e5 : x4 = dP1 (gm_g v) (mb v) (hm v) j x := by
        rw [e4, e3, e2, e1, hy']
        rfl
      clear e1 e2 e3 e4 hy hy'
      refine dm_isBar z2 hj (fun hb => ⟨fun q => absurd q (by decide), fun _ => ?_⟩) (fun hb => ⟨fun _ => ?_, fun q => absurd rfl q⟩)
      · refine dm_without z2 hj hb (c := 0) rfl (fun u3 z3 x6 e6 => ?_)
        refine dm_without z3 hj hb (c := 1) rfl (fun u4 z4 x7 e7 => ?_)
        refine dm_why z4 hj hb (fun u5 z5 => ?_)
        have := k u5 z5
        unfold dP at this
        rw [if_pos hb] at this
        rw [e7, e6, e5]
        exact this
      · refine dm_gain z2 hj (c := 0) (fun u3 z3 x6 e6 => ?_)
        refine dm_gain z3 hj (c := 1) (fun u4 z4 => ?_)
        have := k u4 z4
        unfold dP at this
        rw [if_neg (by rw [hb]; decide)] at this
        rw [e6, e5]
        exact this
    | succ d ih =>
      intro i y u hi hz hy
      apply vc_X7_pairDigest_6
      rw [nn_ad1]
      refine ⟨fun q => ?_, fun _ => dm_pair hz hj (by omega) (fun x1 e1 => ?_)⟩
      · exfalso
        have := (nI_leI (a := 4) (by omega) (by omega)).mp q
        omega
      · refine ih (i + 1) x1 u (by omega) hz ?_
        rw [e1]
        exact hy
  exact loop 4 0 x w (by omega) h rfl
theorem m_dig222 {P : Int64 → wo_T → Prop} (hz : zm v w) {S : Nat} (hs : sb (gm_g v) (mb v) = some S) {N i : Nat} (hi : i < 90) (x : Int64) (k : ∀ u, zm v u → jj_J K mX7_digest (jj_Rl P) 213 [(0, .ref 58), (1, .long (dG (fun j z => 31 * z + (cx_c (gm_g v) S i (nI j)).toInt64) 0 6 x)), (3, .int (nI N)), (4, .int (nI (i + 1)))] [] u) : jj_J K mX7_digest (jj_Rl P) 222 [(0, .ref 58), (1, .long x), (3, .int (nI N)), (4, .int (nI i)), (5, .int 0)] [] w := by
  have loop : ∀ d j y u, j + d = 6 → zm v u → dG (fun j z => 31 * z + (cx_c (gm_g v) S i (nI j)).toInt64) j d y = dG (fun j z => 31 * z + (cx_c (gm_g v) S i (nI j)).toInt64) 0 6 x → jj_J K mX7_digest (jj_Rl P) 222 [(0, .ref 58), (1, .long y), (3, .int (nI N)), (4, .int (nI i)), (5, .int (nI j))] [] u := by
    intro d
    induction d with
    | zero =>
      intro j y u hj hzu hy
      have e6 : j = 6 := by omega
      subst e6
      have hy' : y = dG (fun j z => 31 * z + (cx_c (gm_g v) S i (nI j)).toInt64) 0 6 x := hy
      apply vc_X7_digest_222
      rw [nn_ad1, nn_ad1, hy']
      exact ⟨fun _ => k u hzu, fun q => absurd (show (6 : Int32) ≤ nI 6 by decide) q⟩
    | succ d ih =>
      intro j y u hj hzu hy
      apply vc_X7_digest_222
      rw [nn_ad1, nn_ad1]
      refine ⟨fun q => ?_, fun _ => dm_cross hzu hs (by omega) (by omega) (fun u1 z1 x1 e1 => ?_)⟩
      · exfalso
        have := (nI_leI (a := 6) (by omega) (by omega)).mp q
        omega
      · refine ih (j + 1) x1 u1 (by omega) z1 ?_
        rw [e1]
        exact hy
  exact loop 6 0 x w (by omega) hz rfl
theorem m_dig213 {P : Int64 → wo_T → Prop} (hz : zm v w) (x : Int64) (k : ∀ u, zm v u → P (dF (gm_g v) (mb v) x) u) : jj_J K mX7_digest (jj_Rl P) 213 [(0, .ref 58), (1, .long x), (3, .int (cx_n (gm_g v) (sb (gm_g v) (mb v)))), (4, .int 0)] [] w := by
  unfold dF at k
  cases hs : sb (gm_g v) (mb v) with
  | none =>
    rw [hs] at k
    apply vc_X7_digest_213
    exact ⟨fun _ => k w hz, fun q => absurd (show (-1 : Int32) ≤ 0 by decide) q⟩
  | some S =>
    rw [hs] at k
    have hlen := cx_l_len (gm_g v) S
    show jj_J K mX7_digest (jj_Rl P) 213 [(0, .ref 58), (1, .long x), (3, .int (nI (cx_l (gm_g v) S).length)), (4, .int 0)] [] w
    have loop : ∀ d i y u, i + d = (cx_l (gm_g v) S).length → zm v u → dG (fun k y => dG (fun j z => 31 * z + (cx_c (gm_g v) S k (nI j)).toInt64) 0 6 y) i d y = dG (fun k y => dG (fun j z => 31 * z + (cx_c (gm_g v) S k (nI j)).toInt64) 0 6 y) 0 (cx_l (gm_g v) S).length x → jj_J K mX7_digest (jj_Rl P) 213 [(0, .ref 58), (1, .long y), (3, .int (nI (cx_l (gm_g v) S).length)), (4, .int (nI i))] [] u := by
      intro d
      induction d with
      | zero =>
        intro i y u hi hzu hy
        apply vc_X7_digest_213
        refine ⟨fun _ => ?_, fun q => absurd (nI_le (by omega) (by omega)) q⟩
        have := k u hzu
        simp only at this
        rw [← hy] at this
        exact this
      | succ d ih =>
        intro i y u hi hzu hy
        apply vc_X7_digest_213
        refine ⟨fun q => absurd q (nI_ge (by omega) (by omega)), fun _ => m_dig222 hzu hs (by omega) y (fun u1 z1 => ih (i + 1) _ u1 (by omega) z1 hy)⟩
    exact loop (cx_l (gm_g v) S).length 0 x w (by omega) hz rfl
theorem m_dig160 {P : Int64 → wo_T → Prop} (hz : zm v w) (hH : h_ok (hm v)) (x : Int64) (k : ∀ u, zm v u → P (dF (gm_g v) (mb v) (dE (gm_g v) (hm v) (dD (gm_g v) (mb v) (hm v) x))) u) : jj_J K mX7_digest (jj_Rl P) 160 [(0, .ref 58), (1, .long x), (3, .int 0)] [] w := by
  have hm' := gm_m hz.2.1
  rw [mq_g hz.1] at hm'
  have loop : ∀ d i y u, i + d = gd_m (gm_g v) → zm v u → dG (dP (gm_g v) (mb v) (hm v)) i d y = dG (dP (gm_g v) (mb v) (hm v)) 0 (gd_m (gm_g v)) x → jj_J K mX7_digest (jj_Rl P) 160 [(0, .ref 58), (1, .long y), (3, .int (nI i))] [] u := by
    intro d
    induction d with
    | zero =>
      intro i y u hi hzu hy
      have hy' : y = dD (gm_g v) (mb v) (hm v) x := hy
      apply vc_X7_digest_160
      refine m_pairs hzu.2.1 ?_
      rw [mq_g hzu.1]
      refine ⟨fun _ => dm_work hzu hH 0 (fun x1 e1 => dm_work hzu hH 1 (fun x2 e2 => dm_crossings hzu (fun u1 z1 => ?_))), fun q => absurd (nI_le (by omega) (by omega)) q⟩
      refine m_dig213 z1 x2 (fun u2 z2 => ?_)
      rw [e2, e1, hy']
      exact k u2 z2
    | succ d ih =>
      intro i y u hi hzu hy
      apply vc_X7_digest_160
      refine m_pairs hzu.2.1 ?_
      rw [mq_g hzu.1, nn_ad1]
      exact ⟨fun q => absurd q (nI_ge (by omega) (by omega)), fun _ => m_pairDigest hzu hH (by omega) y (fun u1 z1 => ih (i + 1) _ u1 (by omega) z1 hy)⟩
  exact loop (gd_m (gm_g v)) 0 x w (by omega) hz rfl
theorem m_dig124 {P : Int64 → wo_T → Prop} (hz : zm v w) {p : Nat} (hp : p < (gm_g v).1) (x : Int64) (k : jj_J K mX7_digest (jj_Rl P) 113 [(0, .ref 58), (1, .long (dG (fun j z => 31 * z + (mI v p (nI j)).toInt64) 0 7 x)), (3, .int (nI (p + 1)))] [] w) : jj_J K mX7_digest (jj_Rl P) 124 [(0, .ref 58), (1, .long x), (3, .int (nI p)), (4, .int 0)] [] w := by
  have loop : ∀ d j y, j + d = 7 → dG (fun j z => 31 * z + (mI v p (nI j)).toInt64) j d y = dG (fun j z => 31 * z + (mI v p (nI j)).toInt64) 0 7 x → jj_J K mX7_digest (jj_Rl P) 124 [(0, .ref 58), (1, .long y), (3, .int (nI p)), (4, .int (nI j))] [] w := by
    intro d
    induction d with
    | zero =>
      intro j y hj hy
      have e7 : j = 7 := by omega
      subst e7
      have hy' : y = dG (fun j z => 31 * z + (mI v p (nI j)).toInt64) 0 7 x := hy
      apply vc_X7_digest_124
      rw [nn_ad1, nn_ad1, hy']
      exact ⟨fun _ => k, fun q => absurd (show (7 : Int32) ≤ nI 7 by decide) q⟩
    | succ d ih =>
      intro j y hj hy
      apply vc_X7_digest_124
      rw [nn_ad1, nn_ad1]
      refine ⟨fun q => ?_, fun _ => dm_info hz hp (by omega) (fun x1 e1 => ?_)⟩
      · exfalso
        have := (nI_leI (a := 7) (by omega) (by omega)).mp q
        omega
      · refine ih (j + 1) x1 (by omega) ?_
        rw [e1]
        exact hy
  exact loop 7 0 x (by omega) rfl
theorem m_dig113 {P : Int64 → wo_T → Prop} (hz : zm v w) (hH : h_ok (hm v)) (x : Int64) (k : ∀ u, zm v u → P (dF (gm_g v) (mb v) (dE (gm_g v) (hm v) (dD (gm_g v) (mb v) (hm v) (dC (gm_g v).1 (mI v) x)))) u) : jj_J K mX7_digest (jj_Rl P) 113 [(0, .ref 58), (1, .long x), (3, .int 0)] [] w := by
  have hn := gm_n hz.2.1
  have h6 := hz.2.1.2.1
  rw [mq_g hz.1] at hn h6
  have loop : ∀ d i y, i + d = (gm_g v).1 → dG (fun p y => dG (fun j z => 31 * z + (mI v p (nI j)).toInt64) 0 7 y) i d y = dC (gm_g v).1 (mI v) x → jj_J K mX7_digest (jj_Rl P) 113 [(0, .ref 58), (1, .long y), (3, .int (nI i))] [] w := by
    intro d
    induction d with
    | zero =>
      intro i y hi hy
      have hy' : y = dC (gm_g v).1 (mI v) x := hy
      apply vc_X7_digest_113
      rw [h6]
      refine ⟨fun _ => m_dig160 hz hH y (fun u z => ?_), fun q => absurd (nI_le (by omega) (by omega)) q⟩
      rw [hy']
      exact k u z
    | succ d ih =>
      intro i y hi hy
      apply vc_X7_digest_113
      rw [h6]
      exact ⟨fun q => absurd q (nI_ge (by omega) (by omega)), fun _ => m_dig124 hz (by omega) y (ih (i + 1) _ (by omega) hy)⟩
  exact loop (gm_g v).1 0 x (by omega) rfl
theorem m_digest {P : Int64 → wo_T → Prop} (h : mi w) (hH : h_ok (hm w)) (k : ∀ u, zm w u → P (dig (gm_g w) (mb w) (hm w) (w.1 58 21) (mI w)) u) : jj_Cl K mX7_digest [.ref 58] w P := by
  apply en_X7_digest
  have loop : ∀ d i y u, i + d = 8 → zm w u → dG (fun i x => 31 * x + (cn (gm_g w) (mb w) (hm w) (w.1 58 21) (nI i)).toInt64) i d y = dA (gm_g w) (mb w) (hm w) (w.1 58 21) → jj_J K mX7_digest (jj_Rl P) 6 [(0, .ref 58), (1, .long y), (3, .int (nI i))] [] u := by
    intro d
    induction d with
    | zero =>
      intro i y u hi hz hy
      have e8 : i = 8 := by omega
      subst e8
      have hy' : y = dA (gm_g w) (mb w) (hm w) (w.1 58 21) := hy
      apply vc_X7_digest_6
      refine ⟨fun _ => ?_, fun q => absurd (show (8 : Int32) ≤ nI 8 by decide) q⟩
      refine dm_least hz (c := 0) rfl (fun u1 z1 x1 e1 => ?_)
      refine dm_least z1 (c := 1) rfl (fun u2 z2 x2 e2 => ?_)
      refine dm_fault z2 (fun u3 z3 x3 e3 => ?_)
      refine dm_frame z3 (fun u4 z4 x4 e4 => ?_)
      refine dm_needed z4 (fun u5 z5 x5 e5 => ?_)
      refine dm_dearest z5 (fun u6 z6 x6 e6 => ?_)
      have ex : x6 = dB (gm_g w) (mb w) (dA (gm_g w) (mb w) (hm w) (w.1 58 21)) := by
        rw [e6, e5, e4, e3, e2, e1, hy']
        rfl
      refine m_dig113 z6 hH x6 (fun u7 z7 => ?_)
      rw [ex]
      exact k u7 z7
    | succ d ih =>
      intro i y u hi hz hy
      apply vc_X7_digest_6
      rw [nn_ad1]
      refine ⟨fun q => ?_, fun _ => dm_count hz hH (nI i) (fun u1 z1 x1 e1 => ?_)⟩
      · exfalso
        have := (nI_leI (a := 8) (by omega) (by omega)).mp q
        omega
      · refine ih (i + 1) x1 u1 (by omega) z1 ?_
        rw [e1]
        exact hy
  exact loop 8 0 17 w (by omega) ⟨mq_rf w, h⟩ rfl
theorem iv_I (h : iv w) : mI w = cI w := by
  obtain ⟨-, -, -, -, l2, l3, l4, l5, l6, -⟩ := h
  unfold mI cI
  rw [l4, l5, l6]
  have e2 : (fun p => w.1 2 (2 * p)) = w.1 59 := funext l2
  have e3 : (fun p => w.1 2 (2 * p + 1)) = w.1 60 := funext l3
  rw [e2, e3]
theorem s_digest (h : iv w) : e_l K mX6_digest mX7_digest [.ref 0] [.ref 58] w := by
  refine c_digest h.1 h.2.2.1 (fun u hz => ?_)
  obtain ⟨hi, e1, e2, e3⟩ := iv_c_g h hz.1 hz.2
  refine m_digest hi.2.1 (iv_hm hi) (fun u2 hz2 => ⟨?_, iv_m hi hz2.1 hz2.2⟩)
  rw [e1, e2, e3, ← hi.2.2.2.2.2.2.2.2.2.2.1, hz.1.2 7 (by decide), iv_I hi, zc_I hz.1]
end

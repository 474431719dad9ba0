/-! ===== digest: what it is, and the class's ===== -/
def dG (F : Nat → Int64 → Int64) : Nat → Nat → Int64 → Int64
  | _, 0, h => h
  | i, d + 1, h => dG F (i + 1) d (F i h)
noncomputable def dL (g : gd_T) (B : Nat) (c : Int32) : Int64 := if isP c then sl g B c else noL (-2)
noncomputable def dPu (g : gd_T) (B k : Nat) (c : Int32) : Int64 := match sb g B with
  | none => noL (-3)
  | some S => fp (sq g S k) c
noncomputable def dGa (g : gd_T) (B k : Nat) (c : Int32) : Int64 := match sb g B, sb g (bwi B k) with
  | some S, some T => fp (sg g S T) c
  | _, _ => noL (-3)
def dSt (g : gd_T) (H : Nat → Int) (k : Nat) (c : Int32) : Int64 := fp (fr_n (st g H k) 12, fr_d (st g H k) 12) c
def dWk (g : gd_T) (H : Nat → Int) (c : Int32) : Int64 := if isP c then fp (fr_n (wk g H 10) 12, fr_d (wk g H 10) 12) c else noL (-2)
noncomputable def dP1 (g : gd_T) (B : Nat) (H : Nat → Int) (k : Nat) (h : Int64) : Int64 := 31 * (31 * (31 * (31 * dG (fun j x => 31 * x + (pai g B k (nI j)).toInt64) 0 4 h + dPu g B k 0) + dPu g B k 1) + dSt g H k 0) + dSt g H k 1
noncomputable def dP (g : gd_T) (B : Nat) (H : Nat → Int) (k : Nat) (h : Int64) : Int64 := if B.testBit k then 31 * (31 * (31 * dP1 g B H k h + sl g (bwo B k) 0) + sl g (bwo B k) 1) + (nn_i (sf g (bwo B k))).toInt64 else 31 * (31 * dP1 g B H k h + dGa g B k 0) + dGa g B k 1
noncomputable def dA (g : gd_T) (B : Nat) (H : Nat → Int) (f : Int32) : Int64 := dG (fun i x => 31 * x + (cn g B H f (nI i)).toInt64) 0 8 17
noncomputable def dB (g : gd_T) (B : Nat) (x : Int64) : Int64 := 31 * (31 * (31 * (31 * (31 * (31 * x + dL g B 0) + dL g B 1) + (nn_i (sf g B)).toInt64) + (fo (sb g B)).toInt64) + (nd g B).toInt64) + (dr g B).toInt64
def dC (n : Nat) (I : Nat → Int32 → Int32) (x : Int64) : Int64 := dG (fun p y => dG (fun j z => 31 * z + (I p (nI j)).toInt64) 0 7 y) 0 n x
noncomputable def dD (g : gd_T) (B : Nat) (H : Nat → Int) (x : Int64) : Int64 := dG (dP g B H) 0 (gd_m g) x
def dE (g : gd_T) (H : Nat → Int) (x : Int64) : Int64 := 31 * (31 * x + dWk g H 0) + dWk g H 1
noncomputable def dF (g : gd_T) (B : Nat) (x : Int64) : Int64 := match sb g B with
  | none => x
  | some S => dG (fun k y => dG (fun j z => 31 * z + (cx_c g S k (nI j)).toInt64) 0 6 y) 0 (cx_l g S).length x
noncomputable def dig (g : gd_T) (B : Nat) (H : Nat → Int) (f : Int32) (I : Nat → Int32 → Int32) : Int64 := dF g B (dE g H (dD g B H (dC g.1 I (dB g B (dA g B H f)))))
def cI (w : wo_T) (p : Nat) (c : Int32) : Int32 := inf (fun p => w.1 2 (2 * p)) (fun p => w.1 2 (2 * p + 1)) (w.1 3) (w.1 4) (w.1 5) p c
def mI (w : wo_T) (p : Nat) (c : Int32) : Int32 := inf (w.1 59) (w.1 60) (w.1 61) (w.1 62) (w.1 63) p c
def zc (w u : wo_T) : Prop := cq w u ∧ ci u
theorem zc_I {w u : wo_T} (h : cq w u) : cI u = cI w := by
  unfold cI
  rw [h.1.1 2 (by decide), h.1.1 3 (by decide), h.1.1 4 (by decide), h.1.1 5 (by decide)]
section
variable {K : jj_K} {v w : wo_T}
theorem zc_f (h : zc v w) : w.1 0 7 = v.1 0 7 := h.1.2 7 (by decide)
theorem dc_count {P : Int32 → wo_T → Prop} (h : zc v w) (hH : h_ok (hc v)) (c : Int32) (k : ∀ u, zc v u → P (cn (gc_g v) (cb v) (hc v) (v.1 0 7) c) u) : jj_Ci K mX6_count [.ref 0, .int c] w P := by
  refine c_count h.2 (by rw [cq_h h.1]; exact hH) c (fun u hq hu => ?_)
  rw [cq_g h.1, cq_b h.1, cq_h h.1, zc_f h]
  exact k u ⟨cq_tr h.1 hq, hu⟩
theorem dc_least {P : Int64 → wo_T → Prop} (h : zc v w) (c : Int32) (k : ∀ u, zc v u → P (dL (gc_g v) (cb v) c) u) : jj_Cl K mX6_least [.ref 0, .int c] w P := by
  refine c_least h.2 c (fun u hq hu => ?_)
  rw [cq_g h.1, cq_b h.1]
  exact k u ⟨cq_tr h.1 hq, hu⟩
theorem dc_fault {P : Int32 → wo_T → Prop} (h : zc v w) (k : ∀ u, zc v u → P (nn_i (sf (gc_g v) (cb v))) u) : jj_Ci K mX6_fault [.ref 0] w P := by
  refine c_fault h.2 (fun u hq hu => ?_)
  rw [cq_g h.1, cq_b h.1]
  exact k u ⟨cq_tr h.1 hq, hu⟩
theorem dc_frame {P : Int32 → wo_T → Prop} (h : zc v w) (k : ∀ u, zc v u → P (fo (sb (gc_g v) (cb v))) u) : jj_Ci K mX6_frame [.ref 0] w P := by
  refine c_frame h.2 (fun u L hf => ?_)
  rw [cq_g h.1, cq_b h.1]
  exact k u ⟨cq_tr h.1 hf.1, cf_ci h.2 hf⟩
theorem dc_needed {P : Int32 → wo_T → Prop} (h : zc v w) (k : ∀ u, zc v u → P (nd (gc_g v) (cb v)) u) : jj_Ci K mX6_needed [.ref 0] w P := by
  refine c_needed h.2 (fun u L hf => ?_)
  rw [cq_g h.1, cq_b h.1]
  exact k u ⟨cq_tr h.1 hf.1, cf_ci h.2 hf⟩
theorem dc_dearest {P : Int32 → wo_T → Prop} (h : zc v w) (k : ∀ u, zc v u → P (dr (gc_g v) (cb v)) u) : jj_Ci K mX6_dearest [.ref 0] w P := by
  refine c_dearest h.2 (fun u L hf => ?_)
  rw [cq_g h.1, cq_b h.1]
  exact k u ⟨cq_tr h.1 hf.1, cf_ci h.2 hf⟩
theorem dc_info {P : Int32 → wo_T → Prop} (h : zc v w) {p : Nat} (hp : p < (gc_g v).1) (c : Int32) (k : P (cI v p c) w) : jj_Ci K mX6_info [.ref 0, .int (nI p), .int c] w P := by
  have hn := gc_n h.2.1
  rw [cq_g h.1] at hn
  refine c_info h.2.1 (nI p) c (fun q hq e => ?_) (fun hno => absurd rfl (hno p (by rw [cq_g h.1]; exact hp)))
  rw [cq_g h.1] at hq
  have : q = p := ((nI_eq (by omega) (by omega)).mp e).symm
  subst this
  rw [← zc_I h.1] at k
  exact k
theorem dc_pair {P : Int32 → wo_T → Prop} (h : zc v w) {j : Nat} (hj : j < gd_m (gc_g v)) (c : Int32) (k : P (pai (gc_g v) (cb v) j c) w) : jj_Ci K mX6_pair [.ref 0, .int (nI j), .int c] w P := by
  have hm := gc_m h.2.1
  rw [cq_g h.1] at hm
  refine c_pair h.2 (nI j) c (fun q hq e => ?_) (fun hno => absurd rfl (hno j (by rw [cq_g h.1]; exact hj)))
  rw [cq_g h.1] at hq
  have : q = j := ((nI_eq (by omega) (by omega)).mp e).symm
  subst this
  rw [cq_g h.1, cq_b h.1]
  exact k
theorem dc_pull {P : Int64 → wo_T → Prop} (h : zc v w) {j : Nat} (hj : j < gd_m (gc_g v)) {c : Int32} (hp : isP c = true) (k : ∀ u, zc v u → P (dPu (gc_g v) (cb v) j c) u) : jj_Cl K mX6_pull [.ref 0, .int (nI j), .int c] w P := by
  have hm := gc_m h.2.1
  rw [cq_g h.1] at hm
  refine c_pull h.2 (nI j) c (fun q u hq e _ hqq hu => ?_) (fun hno => ?_)
  · rw [cq_g h.1] at hq
    have : q = j := ((nI_eq (by omega) (by omega)).mp e).symm
    subst this
    rw [cq_g h.1, cq_b h.1]
    have := k u ⟨cq_tr h.1 hqq, hu⟩
    unfold dPu at this
    cases hs : sb (gc_g v) (cb v) with
    | none => rw [hs] at this; exact this
    | some S => rw [hs] at this; exact this
  · exfalso
    rcases hno with q | q
    · exact q j (by rw [cq_g h.1]; exact hj) rfl
    · rw [hp] at q; cases q
theorem dc_stretch {P : Int64 → wo_T → Prop} (h : zc v w) (hH : h_ok (hc v)) {j : Nat} (hj : j < gd_m (gc_g v)) {c : Int32} (hp : isP c = true) (k : P (dSt (gc_g v) (hc v) j c) w) : jj_Cl K mX6_stretch [.ref 0, .int (nI j), .int c] w P := by
  have hm := gc_m h.2.1
  rw [cq_g h.1] at hm
  refine c_stretch h.2.1 (by rw [cq_h h.1]; exact hH) (nI j) c (fun q hq e _ => ?_) (fun hno => ?_)
  · rw [cq_g h.1] at hq
    have : q = j := ((nI_eq (by omega) (by omega)).mp e).symm
    subst this
    rw [cq_g h.1, cq_h h.1]
    exact k
  · exfalso
    rcases hno with q | q
    · exact q j (by rw [cq_g h.1]; exact hj) rfl
    · rw [hp] at q; cases q
theorem dc_isBar {P : Int32 → wo_T → Prop} (h : zc v w) {j : Nat} (hj : j < gd_m (gc_g v)) (k1 : (cb v).testBit j = true → P 1 w) (k0 : (cb v).testBit j = false → P 0 w) : jj_Ci K mX6_isBar [.ref 0, .int (nI j)] w P := by
  have hm := gc_m h.2.1
  rw [cq_g h.1] at hm
  refine c_isBar h.2 (nI j) (fun q hq e hb => ?_) (fun hno => ?_)
  · rw [cq_g h.1] at hq
    have : q = j := ((nI_eq (by omega) (by omega)).mp e).symm
    subst this
    rw [cq_b h.1] at hb
    exact k1 hb
  · have := hno j (by rw [cq_g h.1]; exact hj) rfl
    rw [cq_b h.1] at this
    exact k0 this
theorem dc_gain {P : Int64 → wo_T → Prop} (h : zc v w) {j : Nat} (hj : j < gd_m (gc_g v)) (hb : (cb v).testBit j = false) {c : Int32} (hp : isP c = true) (k : ∀ u, zc v u → P (dGa (gc_g v) (cb v) j c) u) : jj_Cl K mX6_gain [.ref 0, .int (nI j), .int c] w P := by
  have hm := gc_m h.2.1
  rw [cq_g h.1] at hm
  refine c_gain h.2 (nI j) c (fun q u hq e _ _ hqq hu => ?_) (fun hno => ?_)
  · rw [cq_g h.1] at hq
    have : q = j := ((nI_eq (by omega) (by omega)).mp e).symm
    subst this
    rw [cq_g h.1, cq_b h.1]
    have := k u ⟨cq_tr h.1 hqq, hu⟩
    unfold dGa at this
    cases hs : sb (gc_g v) (cb v) <;> cases ht : sb (gc_g v) (bwi (cb v) q) <;> (rw [hs, ht] at this; exact this)
  · exfalso
    rcases hno with q | q
    · have := q j (by rw [cq_g h.1]; exact hj) rfl
      rw [cq_b h.1, hb] at this; cases this
    · rw [hp] at q; cases q
theorem dc_without {P : Int64 → wo_T → Prop} (h : zc v w) {j : Nat} (hj : j < gd_m (gc_g v)) (hb : (cb v).testBit j = true) {c : Int32} (hp : isP c = true) (k : ∀ u, zc v u → P (sl (gc_g v) (bwo (cb v) j) c) u) : jj_Cl K mX6_without [.ref 0, .int (nI j), .int c] w P := by
  have hm := gc_m h.2.1
  obtain ⟨e10, e11⟩ := ev_lt hm
  have hB := h.2.2.1.2
  rw [cq_b h.1] at hB
  rw [cq_g h.1] at hm e11 hB
  refine c_without h.2 (nI j) c (fun q u hq e _ _ hqq hu => ?_) (fun hno => ?_)
  · rw [cq_g h.1] at hq
    have : q = j := ((nI_eq (by omega) (by omega)).mp e).symm
    subst this
    rw [cq_g h.1, cq_b h.1]
    have := k u ⟨cq_tr h.1 hqq, hu⟩
    cases hs : sb (gc_g v) (cb v) with
    | none =>
      have z := sb_mono (bwo_sub (k := q) (by omega)) hs
      unfold sl at this
      rw [z] at this
      exact this
    | some S => exact this
  · exfalso
    rcases hno with q | q
    · have := q j (by rw [cq_g h.1]; exact hj) rfl
      rw [cq_b h.1, hb] at this; cases this
    · rw [hp] at q; cases q
theorem dc_why {P : Int32 → wo_T → Prop} (h : zc v w) {j : Nat} (hj : j < gd_m (gc_g v)) (hb : (cb v).testBit j = true) (k : ∀ u, zc v u → P (nn_i (sf (gc_g v) (bwo (cb v) j))) u) : jj_Ci K mX6_why [.ref 0, .int (nI j)] w P := by
  have hm := gc_m h.2.1
  rw [cq_g h.1] at hm
  refine c_why h.2 (nI j) (fun q u hq e _ hqq hu => ?_) (fun hno => ?_)
  · rw [cq_g h.1] at hq
    have : q = j := ((nI_eq (by omega) (by omega)).mp e).symm
    subst this
    rw [cq_g h.1, cq_b h.1]
    exact k u ⟨cq_tr h.1 hqq, hu⟩
  · exfalso
    have := hno j (by rw [cq_g h.1]; exact hj) rfl
    rw [cq_b h.1, hb] at this; cases this
theorem dc_work {P : Int64 → wo_T → Prop} (h : zc v w) (hH : h_ok (hc v)) (c : Int32) (k : P (dWk (gc_g v) (hc v) c) w) : jj_Cl K mX6_work [.ref 0, .int c] w P := by
  refine c_work h.2.1 (by rw [cq_h h.1]; exact hH) c ?_
  rw [cq_g h.1, cq_h h.1]
  exact k
theorem dc_crossings {P : Int32 → wo_T → Prop} (h : zc v w) (k : ∀ u, zc v u → P (cx_n (gc_g v) (sb (gc_g v) (cb v))) u) : jj_Ci K mX6_crossings [.ref 0] w P := by
  refine c_crossings h.2 (fun u hq hu => ?_)
  rw [cq_g h.1, cq_b h.1]
  exact k u ⟨cq_tr h.1 hq, hu⟩
theorem dc_cross {P : Int32 → wo_T → Prop} (h : zc v w) {S : Nat} (hs : sb (gc_g v) (cb v) = some S) {i j : Nat} (hi : i < 2147483648) (hj : j < 6) (k : ∀ u, zc v u → P (cx_c (gc_g v) S i (nI j)) u) : jj_Ci K mX6_cross [.ref 0, .int (nI i), .int (nI j)] w P := by
  refine c_cross h.2 hi hj (fun u hq hu => ?_)
  rw [cq_g h.1, cq_b h.1]
  have := k u ⟨cq_tr h.1 hq, hu⟩
  unfold cx_o
  rw [hs]
  exact this
/-! one pair -/
theorem c_digestPair {P : Int64 → wo_T → Prop} (h : zc v w) (hH : h_ok (hc v)) {j : Nat} (hj : j < gd_m (gc_g v)) (x : Int64) (k : ∀ u, zc v u → P (dP (gc_g v) (cb v) (hc v) j x) u) : jj_Cl K mX6_digestPair [.ref 0, .long x, .int (nI j)] w P := by
  apply en_X6_digestPair
  have loop : ∀ d i y u, i + d = 4 → zc v u → dG (fun i x => 31 * x + (pai (gc_g v) (cb v) j (nI i)).toInt64) i d y = dG (fun i x => 31 * x + (pai (gc_g v) (cb v) j (nI i)).toInt64) 0 4 x → jj_J K mX6_digestPair (jj_Rl P) 6 [(0, .ref 0), (1, .long x), (3, .int (nI j)), (4, .long y), (6, .int (nI i))] [] u := by
    intro d
    induction d with
    | zero =>
      intro i y u hi hz hy
      have e4 : i = 4 := by omega
      subst e4
      have hy' : y = dG (fun i x => 31 * x + (pai (gc_g v) (cb v) j (nI i)).toInt64) 0 4 x := hy
      apply vc_X6_digestPair_6
      refine ⟨fun _ => ?_, fun q => absurd (show (3 : Int32) < nI 4 by decide) q⟩
      refine dc_pull hz hj (c := 0) rfl (fun u1 z1 x1 e1 => ?_)
      refine dc_pull z1 hj (c := 1) rfl (fun u2 z2 x2 e2 => ?_)
      refine dc_stretch z2 hH hj (c := 0) rfl (fun x3 e3 => ?_)
      refine dc_stretch z2 hH hj (c := 1) rfl (fun x4 e4 => ?_)
      have e5 : x4 = dP1 (gc_g v) (cb v) (hc v) j x := by
        rw [e4, e3, e2, e1, hy']
        rfl
      clear e1 e2 e3 e4 hy hy'
      refine dc_isBar z2 hj (fun hb => ⟨fun q => absurd q (by decide), fun _ => ?_⟩) (fun hb => ⟨fun _ => ?_, fun q => absurd rfl q⟩)
      · refine dc_without z2 hj hb (c := 0) rfl (fun u3 z3 x6 e6 => ?_)
        refine dc_without z3 hj hb (c := 1) rfl (fun u4 z4 x7 e7 => ?_)
        refine dc_why z4 hj hb (fun u5 z5 => ?_)
        have := k u5 z5
        unfold dP at this
        rw [if_pos hb] at this
        rw [e7, e6, e5]
        exact this
      · refine dc_gain z2 hj hb (c := 0) rfl (fun u3 z3 x6 e6 => ?_)
        refine dc_gain z3 hj hb (c := 1) rfl (fun u4 z4 => ?_)
        have := k u4 z4
        unfold dP at this
        rw [if_neg (by rw [hb]; decide)] at this
        rw [e6, e5]
        exact this
    | succ d ih =>
      intro i y u hi hz hy
      apply vc_X6_digestPair_6
      rw [nn_ad1]
      refine ⟨fun q => ?_, fun _ => dc_pair hz hj (nI i) (fun x1 e1 => ?_)⟩
      · exfalso
        have := (nI_ltI (a := 3) (by omega) (by omega)).mp q
        omega
      · refine ih (i + 1) x1 u (by omega) hz ?_
        rw [e1]
        exact hy
  exact loop 4 0 x w (by omega) h rfl
/-! the whole of it, from its end on -/
theorem c_dig220 {P : Int64 → wo_T → Prop} (hz : zc v w) {S : Nat} (hs : sb (gc_g v) (cb v) = some S) {N i : Nat} (hi : i < 90) (x : Int64) (k : ∀ u, zc v u → jj_J K mX6_digest (jj_Rl P) 211 [(0, .ref 0), (1, .long (dG (fun j z => 31 * z + (cx_c (gc_g v) S i (nI j)).toInt64) 0 6 x)), (3, .int (nI N)), (4, .int (nI (i + 1)))] [] u) : jj_J K mX6_digest (jj_Rl P) 220 [(0, .ref 0), (1, .long x), (3, .int (nI N)), (4, .int (nI i)), (5, .int 0)] [] w := by
  have loop : ∀ d j y u, j + d = 6 → zc v u → dG (fun j z => 31 * z + (cx_c (gc_g v) S i (nI j)).toInt64) j d y = dG (fun j z => 31 * z + (cx_c (gc_g v) S i (nI j)).toInt64) 0 6 x → jj_J K mX6_digest (jj_Rl P) 220 [(0, .ref 0), (1, .long y), (3, .int (nI N)), (4, .int (nI i)), (5, .int (nI j))] [] u := by
    intro d
    induction d with
    | zero =>
      intro j y u hj hzu hy
      have e6 : j = 6 := by omega
      subst e6
      have hy' : y = dG (fun j z => 31 * z + (cx_c (gc_g v) S i (nI j)).toInt64) 0 6 x := hy
      apply vc_X6_digest_220
      rw [nn_ad1, nn_ad1, hy']
      exact ⟨fun _ => k u hzu, fun q => absurd (show (5 : Int32) < nI 6 by decide) q⟩
    | succ d ih =>
      intro j y u hj hzu hy
      apply vc_X6_digest_220
      rw [nn_ad1, nn_ad1]
      refine ⟨fun q => ?_, fun _ => dc_cross hzu hs (by omega) (by omega) (fun u1 z1 x1 e1 => ?_)⟩
      · exfalso
        have := (nI_ltI (a := 5) (by omega) (by omega)).mp q
        omega
      · refine ih (j + 1) x1 u1 (by omega) z1 ?_
        rw [e1]
        exact hy
  exact loop 6 0 x w (by omega) hz rfl
theorem c_dig211 {P : Int64 → wo_T → Prop} (hz : zc v w) (x : Int64) (k : ∀ u, zc v u → P (dF (gc_g v) (cb v) x) u) : jj_J K mX6_digest (jj_Rl P) 211 [(0, .ref 0), (1, .long x), (3, .int (cx_n (gc_g v) (sb (gc_g v) (cb v)))), (4, .int 0)] [] w := by
  unfold dF at k
  cases hs : sb (gc_g v) (cb v) with
  | none =>
    rw [hs] at k
    apply vc_X6_digest_211
    exact ⟨fun _ => k w hz, fun q => absurd (show (-1 : Int32) ≤ 0 by decide) q⟩
  | some S =>
    rw [hs] at k
    have hlen := cx_l_len (gc_g v) S
    show jj_J K mX6_digest (jj_Rl P) 211 [(0, .ref 0), (1, .long x), (3, .int (nI (cx_l (gc_g v) S).length)), (4, .int 0)] [] w
    have loop : ∀ d i y u, i + d = (cx_l (gc_g v) S).length → zc v u → dG (fun k y => dG (fun j z => 31 * z + (cx_c (gc_g v) S k (nI j)).toInt64) 0 6 y) i d y = dG (fun k y => dG (fun j z => 31 * z + (cx_c (gc_g v) S k (nI j)).toInt64) 0 6 y) 0 (cx_l (gc_g v) S).length x → jj_J K mX6_digest (jj_Rl P) 211 [(0, .ref 0), (1, .long y), (3, .int (nI (cx_l (gc_g v) S).length)), (4, .int (nI i))] [] u := by
      intro d
      induction d with
      | zero =>
        intro i y u hi hzu hy
        apply vc_X6_digest_211
        refine ⟨fun _ => ?_, fun q => absurd (nI_le (by omega) (by omega)) q⟩
        have := k u hzu
        simp only at this
        rw [← hy] at this
        exact this
      | succ d ih =>
        intro i y u hi hzu hy
        apply vc_X6_digest_211
        refine ⟨fun q => absurd q (nI_ge (by omega) (by omega)), fun _ => c_dig220 hzu hs (by omega) y (fun u1 z1 => ih (i + 1) _ u1 (by omega) z1 hy)⟩
    exact loop (cx_l (gc_g v) S).length 0 x w (by omega) hz rfl
theorem c_dig155 {P : Int64 → wo_T → Prop} (hz : zc v w) (hH : h_ok (hc v)) (x : Int64) (k : ∀ u, zc v u → P (dF (gc_g v) (cb v) (dE (gc_g v) (hc v) (dD (gc_g v) (cb v) (hc v) x))) u) : jj_J K mX6_digest (jj_Rl P) 155 [(0, .ref 0), (1, .long x), (3, .int 0)] [] w := by
  have hm := gc_m hz.2.1
  rw [cq_g hz.1] at hm
  have loop : ∀ d i y u, i + d = gd_m (gc_g v) → zc v u → dG (dP (gc_g v) (cb v) (hc v)) i d y = dG (dP (gc_g v) (cb v) (hc v)) 0 (gd_m (gc_g v)) x → jj_J K mX6_digest (jj_Rl P) 155 [(0, .ref 0), (1, .long y), (3, .int (nI i))] [] u := by
    intro d
    induction d with
    | zero =>
      intro i y u hi hzu hy
      have hy' : y = dD (gc_g v) (cb v) (hc v) x := hy
      apply vc_X6_digest_155
      refine c_pairs hzu.2.1 ?_
      rw [cq_g hzu.1]
      refine ⟨fun _ => dc_work hzu hH 0 (fun x1 e1 => dc_work hzu hH 1 (fun x2 e2 => dc_crossings hzu (fun u1 z1 => ?_))), fun q => absurd (nI_le (by omega) (by omega)) q⟩
      refine c_dig211 z1 x2 (fun u2 z2 => ?_)
      rw [e2, e1, hy']
      exact k u2 z2
    | succ d ih =>
      intro i y u hi hzu hy
      apply vc_X6_digest_155
      refine c_pairs hzu.2.1 ?_
      rw [cq_g hzu.1, nn_ad1]
      exact ⟨fun q => absurd q (nI_ge (by omega) (by omega)), fun _ => c_digestPair hzu hH (by omega) y (fun u1 z1 => ih (i + 1) _ u1 (by omega) z1 hy)⟩
  exact loop (gd_m (gc_g v)) 0 x w (by omega) hz rfl
theorem c_dig119 {P : Int64 → wo_T → Prop} (hz : zc v w) {p : Nat} (hp : p < (gc_g v).1) (x : Int64) (k : jj_J K mX6_digest (jj_Rl P) 105 [(0, .ref 0), (1, .long (dG (fun j z => 31 * z + (cI v p (nI j)).toInt64) 0 7 x)), (3, .int (nI (p + 1)))] [] w) : jj_J K mX6_digest (jj_Rl P) 119 [(0, .ref 0), (1, .long x), (3, .int (nI p)), (4, .int 0)] [] w := by
  have loop : ∀ d j y, j + d = 7 → dG (fun j z => 31 * z + (cI v p (nI j)).toInt64) j d y = dG (fun j z => 31 * z + (cI v p (nI j)).toInt64) 0 7 x → jj_J K mX6_digest (jj_Rl P) 119 [(0, .ref 0), (1, .long y), (3, .int (nI p)), (4, .int (nI j))] [] w := by
    intro d
    induction d with
    | zero =>
      intro j y hj hy
      have e7 : j = 7 := by omega
      subst e7
      have hy' : y = dG (fun j z => 31 * z + (cI v p (nI j)).toInt64) 0 7 x := hy
      apply vc_X6_digest_119
      rw [nn_ad1, nn_ad1, hy']
      exact ⟨fun _ => k, fun q => absurd (show (6 : Int32) < nI 7 by decide) q⟩
    | succ d ih =>
      intro j y hj hy
      apply vc_X6_digest_119
      rw [nn_ad1, nn_ad1]
      refine ⟨fun q => ?_, fun _ => dc_info hz hp (nI j) (fun x1 e1 => ?_)⟩
      · exfalso
        have := (nI_ltI (a := 6) (by omega) (by omega)).mp q
        omega
      · refine ih (j + 1) x1 (by omega) ?_
        rw [e1]
        exact hy
  exact loop 7 0 x (by omega) rfl
theorem c_dig105 {P : Int64 → wo_T → Prop} (hz : zc v w) (hH : h_ok (hc v)) (x : Int64) (k : ∀ u, zc v u → P (dF (gc_g v) (cb v) (dE (gc_g v) (hc v) (dD (gc_g v) (cb v) (hc v) (dC (gc_g v).1 (cI v) x)))) u) : jj_J K mX6_digest (jj_Rl P) 105 [(0, .ref 0), (1, .long x), (3, .int 0)] [] w := by
  have hn := gc_n hz.2.1
  have h6 := hz.2.1.2.1
  rw [cq_g hz.1] at hn h6
  have loop : ∀ d i y, i + d = (gc_g v).1 → dG (fun p y => dG (fun j z => 31 * z + (cI v p (nI j)).toInt64) 0 7 y) i d y = dC (gc_g v).1 (cI v) x → jj_J K mX6_digest (jj_Rl P) 105 [(0, .ref 0), (1, .long y), (3, .int (nI i))] [] w := by
    intro d
    induction d with
    | zero =>
      intro i y hi hy
      have hy' : y = dC (gc_g v).1 (cI v) x := hy
      apply vc_X6_digest_105
      rw [h6]
      refine ⟨fun _ => c_dig155 hz hH y (fun u z => ?_), fun q => absurd (nI_le (by omega) (by omega)) q⟩
      rw [hy']
      exact k u z
    | succ d ih =>
      intro i y hi hy
      apply vc_X6_digest_105
      rw [h6]
      exact ⟨fun q => absurd q (nI_ge (by omega) (by omega)), fun _ => c_dig119 hz (by omega) y (ih (i + 1) _ (by omega) hy)⟩
  exact loop (gc_g v).1 0 x (by omega) rfl
theorem c_digest {P : Int64 → wo_T → Prop} (h : ci w) (hH : h_ok (hc w)) (k : ∀ u, zc w u → P (dig (gc_g w) (cb w) (hc w) (w.1 0 7) (cI w)) u) : jj_Cl K mX6_digest [.ref 0] w P := by
  apply en_X6_digest
  have loop : ∀ d i y u, i + d = 8 → zc w u → dG (fun i x => 31 * x + (cn (gc_g w) (cb w) (hc w) (w.1 0 7) (nI i)).toInt64) i d y = dA (gc_g w) (cb w) (hc w) (w.1 0 7) → jj_J K mX6_digest (jj_Rl P) 6 [(0, .ref 0), (1, .long y), (3, .int (nI i))] [] u := by
    intro d
    induction d with
    | zero =>
      intro i y u hi hz hy
      have e8 : i = 8 := by omega
      subst e8
      have hy' : y = dA (gc_g w) (cb w) (hc w) (w.1 0 7) := hy
      apply vc_X6_digest_6
      refine ⟨fun _ => ?_, fun q => absurd (show (7 : Int32) < nI 8 by decide) q⟩
      refine dc_least hz 0 (fun u1 z1 x1 e1 => ?_)
      refine dc_least z1 1 (fun u2 z2 x2 e2 => ?_)
      refine dc_fault z2 (fun u3 z3 x3 e3 => ?_)
      refine dc_frame z3 (fun u4 z4 x4 e4 => ?_)
      refine dc_needed z4 (fun u5 z5 x5 e5 => ?_)
      refine dc_dearest z5 (fun u6 z6 x6 e6 => ?_)
      have ex : x6 = dB (gc_g w) (cb w) (dA (gc_g w) (cb w) (hc w) (w.1 0 7)) := by
        rw [e6, e5, e4, e3, e2, e1, hy']
        rfl
      refine c_dig105 z6 hH x6 (fun u7 z7 => ?_)
      rw [ex]
      exact k u7 z7
    | succ d ih =>
      intro i y u hi hz hy
      apply vc_X6_digest_6
      rw [nn_ad1]
      refine ⟨fun q => ?_, fun _ => dc_count hz hH (nI i) (fun u1 z1 x1 e1 => ?_)⟩
      · exfalso
        have := (nI_ltI (a := 7) (by omega) (by omega)).mp q
        omega
      · refine ih (i + 1) x1 u1 (by omega) z1 ?_
        rw [e1]
        exact hy
  exact loop 8 0 17 w (by omega) ⟨cq_rf w, h⟩ rfl
end
